/-! ===== digest: model ===== -/
section DM
variable {N : Nat} {n : Nat → Nat} {β tr : Nat → Nat → Nat} {st : Nat → Nat} {h : Nat} {ea eb : Nat → Nat} {fd : Int32} {typed texts coming going worn rowOf looks minutes manyIn goer lfo whens fronts laidTo chains outs one oth : Nat → Int32} {comes came goes wears deep room look lift laid judgedNow goers aheads : Int32} {orders : Nat → Int64} {wV : Int32 → Int32}
theorem aLeast2 {k : Nat} (hk : k ≤ 3) : aLeast n β 2 (mI k) = lsA (gA n β) 2 (sv (tC n β)) (mI k) := by
  unfold aLeast
  rw [if_pos ⟨by decide, mI_in (m := 6) (by omega) (by omega)⟩]
  rfl
theorem aRule2 {k : Nat} (hk : k ≤ 3) : aRule n β (nI k) 2 = nI (slA n β (tC n β) k 2) := by
  unfold aRule
  rw [if_pos ⟨in_nI (m := 3) (by omega) hk, by decide⟩, nI_clamp (by omega)]
  rfl
theorem digEnd (hN : 2200 < N) (hM : ModT n β tr st typed texts rowOf looks minutes deep room look lift) (hO : ToM h ea eb aheads one oth) {s : Int64 × Int32 × Int32 × (Nat → Int32) × Int32 × Int32 × (Nat → Int32) × Int32 × (Nat → Int32) × (Nat → Int32) × (Nat → Int32) × (Nat → Int32) × (Nat → Int32)} (hs : s.1 = dD8 n β tr st h fd wV ∧ s.2.1 = nI 0) : ∃ S, lp (bX7_digest_254 N typed texts rowOf looks minutes deep room look lift aheads one oth fd laid judgedNow goers goer lfo chains outs orders) N s = some S ∧ S.1 = dD14 n β tr st h ea eb fd wV := by
  have hT := hM.1
  have hlk : ∀ g, g < 10 → looks g = nI (tr 1 g) ∧ tr 1 g < 4 := fun g hg => (hM.2.1 g hg).2.1
  refine lp_out 4 (fun k s => s.1 = fo (dS9 n β) (dD8 n β tr st h fd wV) k ∧ s.2.1 = nI k) (fun k s hk hp => ?_) (fun s hp κ => ?_) hs (by omega)
  · obtain ⟨x1, x2, cs⟩ := s
    obtain ⟨p1, p2⟩ := hp
    simp only at p1 p2
    subst p1 p2
    unfold bX7_digest_254
    simp only [if_neg (show ¬ (4 : Int32) ≤ nI k by rw [li4, nI_leI (by omega) (by omega)]; omega)]
    refine bS (ruleOf7 (ρ := k) (k := 2) (by omega) hT (by omega) (by omega) (by omega)) (fun R hR => ?_)
    exact ⟨_, fun κ => rfl, by simp only; rw [hR, nI_1, ← aRule2 (by omega)]; exact ⟨rfl, rfl⟩⟩
  · obtain ⟨x1, x2, cs⟩ := s
    obtain ⟨p1, p2⟩ := hp
    simp only at p1 p2
    subst p1 p2
    unfold bX7_digest_254 nm
    simp only [if_pos (show (4 : Int32) ≤ nI 4 by decide)]
    refine bO (bestOf7 (by omega) hT) (fun R1 a1 => ?_)
    refine bO (gapOf7 (k := 2) hN hT (by omega) (by omega)) (fun R2 a2 => ?_)
    refine bO (meanOf7 (by omega) hM 0 (by decide)) (fun R3 a3 => ?_)
    refine bO (meanOf7 (by omega) hM 1 (by decide)) (fun R4 a4 => ?_)
    refine bO (heap7 (by omega) hM (-1) 0) (fun R5 a5 => ?_)
    refine bO (heap7 (by omega) hM (-1) 1) (fun R6 a6 => ?_)
    refine bO (heap7 (by omega) hM 0 0) (fun R7 a7 => ?_)
    refine bO (heap7 (by omega) hM 0 1) (fun R8 a8 => ?_)
    refine bO (alikeOf7 (by omega) hT hlk 0 (by decide)) (fun R9 a9 => ?_)
    refine bO (alikeOf7 (by omega) hT hlk 1 (by decide)) (fun R10 a10 => ?_)
    refine bO (ordersOf7 (j := 1) hN hT hO.2.1 hO.2.2 (by omega)) (fun R11 a11 => ?_)
    refine bO (firstsOf7 (j := 1) hN hT hO (by omega)) (fun R12 a12 => ?_)
    refine bO (nightOf7 (by omega) hM) (fun R13 a13 => ?_)
    exact ⟨_, rfl, by simp only; rw [a1, a2, a3, a4, a5, a6, a7, a8, a9, a10, a11.1, a12, a13]; rfl⟩
theorem digest7 (hN : 2200 < N) (hM : ModT n β tr st typed texts rowOf looks minutes deep room look lift) (hO : ToM h ea eb aheads one oth) (hw : ∀ (p comes : Int32) (coming : Nat → Int32) (came goes : Int32) (going : Nat → Int32) (wears : Int32) (worn : Nat → Int32), ∃ R, fX7_wrong N typed texts comes coming came goes going wears worn p = some R ∧ R.1 = wV p) : ∃ R, fX7_digest N typed texts comes coming came goes going wears worn rowOf looks minutes deep room look lift laid judgedNow manyIn goers goer lfo whens fronts laidTo chains outs aheads one oth orders fd = some R ∧ R.1 = dD14 n β tr st h ea eb fd wV := by
  have hT := hM.1
  unfold fX7_digest
  refine lp_out 8 (fun k s => s.1 = fo (dS1 n β tr st h fd) 17 k ∧ s.2.1 = nI k) (fun k s hk hp => ?_) (fun s hp κ => ?_) ⟨rfl, rfl⟩ (by omega)
  · obtain ⟨x1, x2, cs⟩ := s
    obtain ⟨p1, p2⟩ := hp
    simp only at p1 p2
    subst p1 p2
    unfold bX7_digest_6
    simp only [if_neg (show ¬ (8 : Int32) ≤ nI k by rw [li8, nI_leI (by omega) (by omega)]; omega)]
    rw [hO.2.2.1]
    refine bS (count7 (by omega) hM (nI k)) (fun R hR => ?_)
    exact ⟨_, fun κ => rfl, by simp only; rw [hR, nI_1]; exact ⟨rfl, rfl⟩⟩
  · obtain ⟨x1, x2, cs⟩ := s
    obtain ⟨p1, p2⟩ := hp
    simp only at p1 p2
    subst p1 p2
    unfold bX7_digest_6
    simp only [if_pos (show (8 : Int32) ≤ nI 8 by decide)]
    refine lp_out 3 (fun k s => s.1 = fo (dS2 n β) (dD1 n β tr st h fd) k ∧ s.2.1 = nI k) (fun k s hk hp => ?_) (fun s hp κ => ?_) ⟨rfl, rfl⟩ (by omega)
    · obtain ⟨x1, x2, cs⟩ := s
      obtain ⟨p1, p2⟩ := hp
      simp only at p1 p2
      subst p1 p2
      have ea : (if nI k = 0 then tF0 n β else if nI k = 1 then tF1 n β else tF2 n β) = aFault n β (nI k) := by
        unfold aFault
        exact (if_pos (in_nI (m := 2) (by omega) (show k ≤ 2 by omega))).symm
      unfold bX7_digest_33
      simp only [if_neg (show ¬ (3 : Int32) ≤ nI k by rw [li3, nI_leI (by omega) (by omega)]; omega)]
      refine bS ⟨_, faultOf_eq (by omega) hT (nI k), rfl⟩ (fun R hR => ?_)
      exact ⟨_, fun κ => rfl, by subst hR; simp only; rw [ea, nI_1]; exact ⟨rfl, rfl⟩⟩
    · obtain ⟨x1, x2, cs⟩ := s
      obtain ⟨p1, p2⟩ := hp
      simp only at p1 p2
      subst p1 p2
      unfold bX7_digest_33
      simp only [if_pos (show (3 : Int32) ≤ nI 3 by decide)]
      refine bO (judged7 (by omega) hM) (fun R1 a1 => ?_)
      rw [a1]
      refine lp_out 10 (fun k s => s.1 = fo (dS4 n β tr st wV) (dD3 n β tr st h fd) k ∧ s.2.1 = nI k) (fun k s hk hp => ?_) (fun s hp κ => ?_) ⟨rfl, rfl⟩ (by omega)
      · obtain ⟨x1, x2, cs⟩ := s
        obtain ⟨p1, p2⟩ := hp
        simp only at p1 p2
        subst p1 p2
        have hg : (0 : Int32) ≤ nI k ∧ nI k ≤ 9 := in_nI (m := 9) (by omega) (by omega)
        unfold bX7_digest_71 nm
        simp only [if_neg (show ¬ (10 : Int32) ≤ nI k by rw [li10, nI_leI (by omega) (by omega)]; omega)]
        refine bS (liftedOf7 (by omega) hM (nI k) (Or.inr hg)) (fun R1 a1 => ?_)
        refine bS (rowsOf7 (by omega) hT (nI k) (Or.inr hg)) (fun R2 a2 => ?_)
        refine bS (outOf7 hN hM (nI k) (Or.inr hg)) (fun R3 a3 => ?_)
        refine bS (hw (nI k) _ _ _ _ _ _ _) (fun R4 a4 => ?_)
        exact ⟨_, fun κ => rfl, by simp only; rw [a1, a2, a3, a4, nI_1]; exact ⟨rfl, rfl⟩⟩
      · obtain ⟨x1, x2, cs⟩ := s
        obtain ⟨p1, p2⟩ := hp
        simp only at p1 p2
        subst p1 p2
        unfold bX7_digest_71 nm
        simp only [if_pos (show (10 : Int32) ≤ nI 10 by decide)]
        refine bO (liftedOf7 (by omega) hM (-1) (Or.inl rfl)) (fun R2 a2 => ?_)
        refine bO (rowsOf7 (by omega) hT (-1) (Or.inl rfl)) (fun R3 a3 => ?_)
        rw [a2, a3]
        refine lp_out 4 (fun k s => s.1 = fo (dS6 n β) (dD5 n β tr st h fd wV) k ∧ s.2.1 = mI k) (fun k s hk hp => ?_) (fun s hp κ => ?_) ⟨rfl, rfl⟩ (by omega)
        · obtain ⟨x1, x2, cs⟩ := s
          obtain ⟨p1, p2⟩ := hp
          simp only at p1 p2
          subst p1 p2
          unfold bX7_digest_163
          simp only [if_neg (show ¬ (3 : Int32) ≤ mI k by rw [li3, mI_le (by omega) (by omega)]; omega)]
          refine bS (proofOf7 (by omega) hT (mI k) (mI_in (m := 9) (by omega) (by omega))) (fun R hR => ?_)
          exact ⟨_, fun κ => rfl, by simp only; rw [hR, mI_1]; exact ⟨rfl, rfl⟩⟩
        · obtain ⟨x1, x2, cs⟩ := s
          obtain ⟨p1, p2⟩ := hp
          simp only at p1 p2
          subst p1 p2
          unfold bX7_digest_163 nm
          simp only [if_pos (show (3 : Int32) ≤ mI 4 by decide)]
          refine bO (outOf7 hN hM (-1) (Or.inl rfl)) (fun R4 a4 => ?_)
          refine bO (hw (-1) _ _ _ _ _ _ _) (fun R5 a5 => ?_)
          refine bO (swapsNow7 (by omega) hT) (fun R6 a6 => ?_)
          rw [a4, a5, a6]
          refine lp_out 3 (fun k s => s.1 = fo (dS8 n β) (dD7 n β tr st h fd wV) k ∧ s.2.1 = mI k) (fun k s hk hp => ?_) (fun s hp κ => ?_) ⟨rfl, rfl⟩ (by omega)
          · obtain ⟨x1, x2, cs⟩ := s
            obtain ⟨p1, p2⟩ := hp
            simp only at p1 p2
            subst p1 p2
            unfold bX7_digest_227
            simp only [if_neg (show ¬ (2 : Int32) ≤ mI k by rw [li2, mI_le (by omega) (by omega)]; omega)]
            refine bS (leastOf7 (k := 2) hN hT (by omega) (by omega) (mI k) (mI_in (m := 6) (by omega) (by omega))) (fun R hR => ?_)
            exact ⟨_, fun κ => rfl, by simp only; rw [hR.1, mI_1, ← aLeast2 (by omega)]; exact ⟨rfl, rfl⟩⟩
          · obtain ⟨x1, x2, cs⟩ := s
            obtain ⟨p1, p2⟩ := hp
            simp only at p1 p2
            subst p1 p2
            unfold bX7_digest_227
            simp only [if_pos (show (2 : Int32) ≤ mI 3 by decide)]
            exact digEnd hN hM hO ⟨rfl, rfl⟩
end DM

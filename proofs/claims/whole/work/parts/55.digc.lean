/-! ===== digest: class ===== -/
section DC
variable {N : Nat} {n : Nat → Nat} {β tr : Nat → Nat → Nat} {st : Nat → Nat} {h : Nat} {ea eb : Nat → Nat} {fd : Int32} {t0_bytes t1_bytes t2_bytes tr0 tr1 tr2 settings h_inRow h_inFrontOf h_liftedFor h_takers g_goesAt g_liftedForThese o_aheadOf o_ways : Nat → Int32} {t0_size t0_faultAt t0_known t0_bits t1_size t1_faultAt t1_known t2_size t2_faultAt t2_known h_takerCount h_laid h_judgedGuest h_liftedInAll g_many o_many o_named : Int32} {cr_outs g_rowAt g_leastRowAt g_proof g_inRow g_frontGoesAt g_longestFrom : Nat → Int32} {cr_entered cr_room cr_latestEntry g_leastLifted : Int32}
def wrV (N : Nat) (b : Nat → Int32) (w : Int32) (p : Int32) : Int32 := (fX6_wrong N b w p).getD 0
theorem digHall (hN : 100 < N) (hi : ∀ r, r < 10 → h_inRow r = M (fun g => LSs (tr 0) (st 0) n β g && (tr 0 g == r))) (hs : RSt st settings) : ∃ R, fX6_digestOfHall N (tF0 n β) (nI (tC n β)) (tF1 n β) (nI (tG n β)) (tF2 n β) (nI (tW n β)) settings h_inRow (M (LSs (tr 0) (st 0) n β)) (J_G (tr 0) (lt β 0) (st 0) (tC n β)) (nI h) fd 17 = some R ∧ R = dD3 n β tr st h fd := by
  unfold fX6_digestOfHall
  refine lp_out (b := bX6_digestOfHall_5 N (tF0 n β) (nI (tC n β)) (tF1 n β) (nI (tG n β)) (tF2 n β) (nI (tW n β)) settings h_inRow (M (LSs (tr 0) (st 0) n β)) (J_G (tr 0) (lt β 0) (st 0) (tC n β)) (nI h) fd 17) 8 (fun k s => s.1 = fo (dS1 n β tr st h fd) 17 k ∧ s.2 = nI k) (fun k s hk hp => ?_) (fun s hp κ => ?_) ⟨rfl, rfl⟩ (by omega)
  · obtain ⟨x1, x2⟩ := s
    obtain ⟨p1, p2⟩ := hp
    simp only at p1 p2
    subst p1 p2
    unfold bX6_digestOfHall_5
    simp only [if_neg (show ¬ (7 : Int32) < nI k by rw [li7, nI_ltI (by omega) (by omega)]; omega)]
    refine bS ⟨_, count6 (row := tr 0) (by omega) hi hs (nI k), rfl⟩ (fun R hR => ?_)
    exact ⟨_, fun κ => rfl, by subst hR; rw [nI_1]; exact ⟨rfl, rfl⟩⟩
  · obtain ⟨x1, x2⟩ := s
    obtain ⟨p1, p2⟩ := hp
    simp only at p1 p2
    subst p1 p2
    unfold bX6_digestOfHall_5
    simp only [if_pos (show (7 : Int32) < nI 8 by decide)]
    refine lp_out (b := bX6_digestOfHall_35 N (tF0 n β) (nI (tC n β)) (tF1 n β) (nI (tG n β)) (tF2 n β) (nI (tW n β)) settings h_inRow (M (LSs (tr 0) (st 0) n β)) (J_G (tr 0) (lt β 0) (st 0) (tC n β)) (nI h) fd 17) 3 (fun k s => s.1 = fo (dS2 n β) (dD1 n β tr st h fd) k ∧ s.2 = nI k) (fun k s hk hp => ?_) (fun s hp κ => ?_) ⟨rfl, rfl⟩ (by omega)
    · obtain ⟨x1, x2⟩ := s
      obtain ⟨p1, p2⟩ := hp
      simp only at p1 p2
      subst p1 p2
      unfold bX6_digestOfHall_35
      simp only [if_neg (show ¬ (3 : Int32) ≤ nI k by rw [li3, nI_leI (by omega) (by omega)]; omega)]
      refine bS ⟨_, fault6 (nI k), rfl⟩ (fun R hR => ?_)
      exact ⟨_, fun κ => rfl, by subst hR; rw [nI_1]; exact ⟨rfl, rfl⟩⟩
    · obtain ⟨x1, x2⟩ := s
      obtain ⟨p1, p2⟩ := hp
      simp only at p1 p2
      subst p1 p2
      unfold bX6_digestOfHall_35 fX6_judged
      simp only [if_pos (show (3 : Int32) ≤ nI 3 by decide), Option.bind_some]
      exact ⟨_, rfl, rfl⟩
theorem digGuests (hN : 2200 < N) (h0 : n 0 ≤ 10) (h1 : n 1 ≤ 10) (hX0 : TX n β 0 t0_bytes t0_size) (hG : RG n β g_many g_goesAt g_liftedForThese) (hTr : RTr tr tr0 tr1 tr2) (hSt : RSt st settings) (hlf : ∀ g, g < 10 → h_liftedFor g = oI (lfs n β (tr 0) (st 0) g)) (htk : CA (tcs n β (tr 0) (st 0)) (tks n β (tr 0) (st 0)) h_takers) (hw : ∀ p, fX6_wrong N t2_bytes (nI (tW n β)) p = some (wrV N t2_bytes (nI (tW n β)) p)) : ∃ R, fX6_digestOfGuests N t0_bytes (nI (tC n β)) t2_bytes (nI (tW n β)) tr2 settings h_liftedFor h_takers (nI (tcs n β (tr 0) (st 0))) (nI (sms n β (tr 0) (st 0))) cr_outs cr_entered cr_room cr_latestEntry g_many g_goesAt g_liftedForThese g_rowAt g_inRow g_frontGoesAt (dD3 n β tr st h fd) = some R ∧ R.1 = dD4 n β tr st h fd (wrV N t2_bytes (nI (tW n β))) := by
  unfold fX6_digestOfGuests
  refine lp_out (b := bX6_digestOfGuests_5 N t0_bytes (nI (tC n β)) t2_bytes (nI (tW n β)) tr2 settings h_liftedFor h_takers (nI (tcs n β (tr 0) (st 0))) (nI (sms n β (tr 0) (st 0))) g_many g_goesAt g_liftedForThese (dD3 n β tr st h fd)) 10 (fun k s => s.1 = fo (dS4 n β tr st (wrV N t2_bytes (nI (tW n β)))) (dD3 n β tr st h fd) k ∧ s.2.1 = nI k) (fun k s hk hp => ?_) (fun s hp κ => ?_) ⟨rfl, rfl⟩ (by omega)
  · obtain ⟨x1, x2, cs⟩ := s
    obtain ⟨p1, p2⟩ := hp
    simp only at p1 p2
    subst p1 p2
    unfold bX6_digestOfGuests_5 nm
    simp only [if_neg (show ¬ (10 : Int32) ≤ nI k by rw [li10, nI_leI (by omega) (by omega)]; omega)]
    refine bS ⟨_, lifted6 hlf (nI k), rfl⟩ (fun R1 a1 => ?_)
    refine bS (rows6 (by omega) h0 h1 hX0 hG (nI k)) (fun R2 a2 => ?_)
    refine bS (out6 (by omega) h1 hTr hSt hlf htk (nI k)) (fun R3 a3 => ?_)
    refine bS ⟨_, hw (nI k), rfl⟩ (fun R4 a4 => ?_)
    exact ⟨_, fun κ => rfl, by subst a1 a4; simp only; rw [a2, a3, nI_1]; exact ⟨rfl, rfl⟩⟩
  · obtain ⟨x1, x2, cs⟩ := s
    obtain ⟨p1, p2⟩ := hp
    simp only at p1 p2
    subst p1 p2
    unfold bX6_digestOfGuests_5
    simp only [if_pos (show (10 : Int32) ≤ nI 10 by decide)]
    exact ⟨_, rfl, rfl⟩
theorem digLayings (hN : 2200 < N) (h0 : n 0 ≤ 10) (h1 : n 1 ≤ 10) (h2 : n 2 ≤ 10) (hX0 : TX n β 0 t0_bytes t0_size) (hX2 : TX n β 2 t2_bytes t2_size) (hG : RG n β g_many g_goesAt g_liftedForThese) (hTr : RTr tr tr0 tr1 tr2) (hSt : RSt st settings) (hlf : ∀ g, g < 10 → h_liftedFor g = oI (lfs n β (tr 0) (st 0) g)) (htk : CA (tcs n β (tr 0) (st 0)) (tks n β (tr 0) (st 0)) h_takers) (hw : ∀ p, fX6_wrong N t2_bytes (nI (tW n β)) p = some (wrV N t2_bytes (nI (tW n β)) p)) : ∃ R, fX6_digestOfLayings N t0_bytes (nI (tC n β)) t2_bytes (nI (tW n β)) tr2 settings h_liftedFor h_takers (nI (tcs n β (tr 0) (st 0))) (nI (sms n β (tr 0) (st 0))) cr_outs cr_entered cr_room cr_latestEntry g_many g_goesAt g_liftedForThese g_rowAt g_leastRowAt g_proof g_inRow g_frontGoesAt g_longestFrom g_leastLifted (dD4 n β tr st h fd (wrV N t2_bytes (nI (tW n β)))) = some R ∧ R.1 = dD10 n β tr st h fd (wrV N t2_bytes (nI (tW n β))) := by
  unfold fX6_digestOfLayings nm
  refine bO ⟨_, lifted6 hlf (-1), rfl⟩ (fun R1 a1 => ?_)
  refine bO (rows6 (by omega) h0 h1 hX0 hG (-1)) (fun R2 a2 => ?_)
  subst a1
  rw [a2]
  simp only
  refine lp_out 4 (fun k s => s.1 = fo (dS6 n β) (dD5 n β tr st h fd (wrV N t2_bytes (nI (tW n β)))) k ∧ s.2.1 = mI k) (fun k s hk hp => ?_) (fun s hp κ => ?_) ⟨rfl, rfl⟩ (by omega)
  · obtain ⟨x1, x2, cs⟩ := s
    obtain ⟨p1, p2⟩ := hp
    simp only at p1 p2
    subst p1 p2
    unfold bX6_digestOfLayings_29
    simp only [if_neg (show ¬ (2 : Int32) < mI k by rw [li2, mI_lt (by omega) (by omega)]; omega)]
    refine bS (proof6 (by omega) h0 h1 hX0 hG (mI k)) (fun R hR => ?_)
    exact ⟨_, fun κ => rfl, by simp only; rw [hR, mI_1]; exact ⟨rfl, rfl⟩⟩
  · obtain ⟨x1, x2, cs⟩ := s
    obtain ⟨p1, p2⟩ := hp
    simp only at p1 p2
    subst p1 p2
    unfold bX6_digestOfLayings_29 nm
    simp only [if_pos (show (2 : Int32) < mI 4 by decide)]
    refine bO (out6 (by omega) h1 hTr hSt hlf htk (-1)) (fun R3 a3 => ?_)
    refine bO ⟨_, hw (-1), rfl⟩ (fun R4 a4 => ?_)
    refine bO ⟨_, swaps6 (by omega) h2 hX2, rfl⟩ (fun R5 a5 => ?_)
    subst a4 a5
    rw [a3]
    refine lp_out 3 (fun k s => s.1 = fo (dS8 n β) (dD7 n β tr st h fd (wrV N t2_bytes (nI (tW n β)))) k ∧ s.2.1 = mI k) (fun k s hk hp => ?_) (fun s hp κ => ?_) ⟨rfl, rfl⟩ (by omega)
    · obtain ⟨x1, x2, cs⟩ := s
      obtain ⟨p1, p2⟩ := hp
      simp only at p1 p2
      subst p1 p2
      unfold bX6_digestOfLayings_96
      simp only [if_neg (show ¬ (1 : Int32) < mI k by rw [li1, mI_lt (by omega) (by omega)]; omega)]
      refine bS (least6 (gt := g_goesAt) (by omega) h0 hG 2 (mI k)) (fun R hR => ?_)
      exact ⟨_, fun κ => rfl, by simp only; rw [hR, mI_1]; exact ⟨rfl, rfl⟩⟩
    · obtain ⟨x1, x2, cs⟩ := s
      obtain ⟨p1, p2⟩ := hp
      simp only at p1 p2
      subst p1 p2
      unfold bX6_digestOfLayings_96
      simp only [if_pos (show (1 : Int32) < mI 3 by decide)]
      refine lp_out 4 (fun k s => s.1 = fo (dS9 n β) (dD8 n β tr st h fd (wrV N t2_bytes (nI (tW n β)))) k ∧ s.2.1 = nI k) (fun k s hk hp => ?_) (fun s hp κ => ?_) ⟨rfl, rfl⟩ (by omega)
      · obtain ⟨x1, x2, cs⟩ := s
        obtain ⟨p1, p2⟩ := hp
        simp only at p1 p2
        subst p1 p2
        unfold bX6_digestOfLayings_126
        simp only [if_neg (show ¬ (4 : Int32) ≤ nI k by rw [li4, nI_leI (by omega) (by omega)]; omega)]
        refine bS (rule6 (by omega) h0 h1 hG (nI k) 2) (fun R hR => ?_)
        exact ⟨_, fun κ => rfl, by simp only; rw [hR, nI_1]; exact ⟨rfl, rfl⟩⟩
      · obtain ⟨x1, x2, cs⟩ := s
        obtain ⟨p1, p2⟩ := hp
        simp only at p1 p2
        subst p1 p2
        unfold bX6_digestOfLayings_126
        simp only [if_pos (show (4 : Int32) ≤ nI 4 by decide)]
        refine bO (best6 (by omega) h0 h1 hG 2) (fun R6 a6 => ?_)
        refine bO (gap6 (by omega) h0 h1 hG 2) (fun R7 a7 => ?_)
        exact ⟨_, rfl, by simp only; rw [a6, a7]; rfl⟩
theorem digOdds (hN : 2200 < N) (h0 : n 0 ≤ 10) (h1 : n 1 ≤ 10) (hTr : RTr tr tr0 tr1 tr2) (hf : ∀ o, o < 10 → h_inFrontOf o = M (FRs (tr 0) (st 0) n β o)) (htk : CA (tcs n β (tr 0) (st 0)) (tks n β (tr 0) (st 0)) h_takers) (htc : tcs n β (tr 0) (st 0) ≤ cnt (LSs (tr 0) (st 0) n β) 10) (hO : ToC h ea eb o_many o_aheadOf o_named) (wV : Int32 → Int32) : ∃ R, fX6_digestOfOdds N (nI (tC n β)) (M (cS n β)) tr1 h_inFrontOf h_takers (nI (tcs n β (tr 0) (st 0))) (M (LSs (tr 0) (st 0) n β)) (nI (sms n β (tr 0) (st 0))) o_aheadOf o_named o_ways (dD10 n β tr st h fd wV) = some R ∧ R.1 = dD14 n β tr st h ea eb fd wV := by
  have hlk : ∀ g, g < 10 → tr1 g = nI (tr 1 g) ∧ tr 1 g < 4 := fun g hg => (hTr g hg).2.1
  unfold fX6_digestOfOdds nm
  refine bO ⟨_, mean6 (by omega) h1 hf htk 5 0, rfl⟩ (fun R1 a1 => ?_)
  refine bO ⟨_, mean6 (by omega) h1 hf htk 5 1, rfl⟩ (fun R2 a2 => ?_)
  refine bO ⟨_, heap6 (by omega) htc (-1) 0, rfl⟩ (fun R3 a3 => ?_)
  refine bO ⟨_, heap6 (by omega) htc (-1) 1, rfl⟩ (fun R4 a4 => ?_)
  refine bO ⟨_, heap6 (by omega) htc 0 0, rfl⟩ (fun R5 a5 => ?_)
  refine bO ⟨_, heap6 (by omega) htc 0 1, rfl⟩ (fun R6 a6 => ?_)
  refine bO ⟨_, alike6 (by omega) hlk 0, rfl⟩ (fun R7 a7 => ?_)
  refine bO ⟨_, alike6 (by omega) hlk 1, rfl⟩ (fun R8 a8 => ?_)
  refine bO (fits6 hN hO 1) (fun R9 a9 => ?_)
  refine bO ⟨_, firsts6 (by omega) hO 1, rfl⟩ (fun R10 a10 => ?_)
  refine bO ⟨_, night6 (by omega) h0 hf 7 3, rfl⟩ (fun R11 a11 => ?_)
  subst a1 a2 a3 a4 a5 a6 a7 a8 a10 a11
  exact ⟨_, rfl, by simp only; rw [a9]; rfl⟩
end DC

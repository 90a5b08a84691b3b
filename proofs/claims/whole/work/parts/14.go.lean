/-! ===== goings: who takes, what is lifted ===== -/
section GO
variable (L : Nat → Bool) (F : Nat → Nat → Bool) (gm : Nat → Nat)
def gn : Nat → Nat → Bool
  | 0, _ => false
  | k + 1, g => gn k g || (g == gm k)
def tc : Nat → Nat
  | 0 => 0
  | k + 1 => tc k + (if L (gm k) then 1 else 0)
def lvk (k : Nat) : Nat := cnt (fun x => F (gm k) x && (L x && !gn gm k x)) 10
def sm : Nat → Nat
  | 0 => 0
  | k + 1 => sm k + (if L (gm k) then lvk L F gm k else 0)
def tkg : Nat → Nat → Nat
  | 0, _ => 0
  | k + 1, i => if L (gm k) = true ∧ i = tc L gm k then gm k else tkg k i
def tvg : Nat → Nat → Nat
  | 0, _ => 0
  | k + 1, i => if L (gm k) = true ∧ i = tc L gm k then lvk L F gm k else tvg k i
def lfg : Nat → Nat → Option Nat
  | 0, _ => none
  | k + 1, g => if L (gm k) = true ∧ g = gm k then some (lvk L F gm k) else lfg k g
end GO
def oI (o : Option Nat) : Int32 := match o with
  | none => -3
  | some v => nI v
section GOP
variable {L : Nat → Bool} {F : Nat → Nat → Bool} {gm : Nat → Nat} {ng : Nat}
theorem gn_iff : ∀ {k g : Nat}, gn gm k g = true ↔ ∃ j, j < k ∧ g = gm j
  | 0, g => by simp [gn]
  | k + 1, g => by
    rw [gn, Bool.or_eq_true, gn_iff, beq_iff_eq]
    constructor
    · rintro (⟨j, h1, h2⟩ | h)
      · exact ⟨j, by omega, h2⟩
      · exact ⟨k, by omega, h⟩
    · rintro ⟨j, h1, h2⟩
      by_cases e : j = k
      · rw [e] at h2; exact Or.inr h2
      · exact Or.inl ⟨j, by omega, h2⟩
theorem gn_new (hd : DG ng gm) {k : Nat} (hk : k < ng) : gn gm k (gm k) = false := by
  cases h : gn gm k (gm k) with
  | false => rfl
  | true =>
    obtain ⟨j, h1, h2⟩ := gn_iff.mp h
    have := hd.2.2 k j hk (by omega) h2
    omega
theorem tc_le : ∀ k, tc L gm k ≤ k
  | 0 => Nat.le_refl 0
  | k + 1 => by rw [tc]; have := tc_le k; split <;> omega
theorem tc_mono : ∀ {j k : Nat}, j ≤ k → tc L gm j ≤ tc L gm k
  | j, 0, h => by rw [show j = 0 by omega]; exact Nat.le_refl _
  | j, k + 1, h => by
    by_cases e : j = k + 1
    · rw [e]; exact Nat.le_refl _
    · rw [tc]; have := tc_mono (j := j) (k := k) (by omega); omega
theorem lvk_le (k : Nat) : lvk L F gm k ≤ 10 := cnt_le _ _
theorem sm_le : ∀ k, sm L F gm k ≤ 10 * k
  | 0 => by simp [sm]
  | k + 1 => by rw [sm]; have := sm_le k; have := @lvk_le L F gm k; split <;> omega
theorem tkg_at : ∀ {k j : Nat}, j < k → L (gm j) = true → tkg L gm k (tc L gm j) = gm j ∧ tvg L F gm k (tc L gm j) = lvk L F gm j
  | 0, j, h, _ => by omega
  | k + 1, j, h, hl => by
    rw [tkg, tvg]
    by_cases e : j = k
    · subst e; rw [if_pos ⟨hl, rfl⟩, if_pos ⟨hl, rfl⟩]; exact ⟨rfl, rfl⟩
    · have h1 : tc L gm (j + 1) ≤ tc L gm k := tc_mono (by omega)
      rw [tc, if_pos hl] at h1
      rw [if_neg (fun z => by omega), if_neg (fun z => by omega)]
      exact tkg_at (by omega) hl
theorem tk_of : ∀ {k i : Nat}, i < tc L gm k → ∃ j, j < k ∧ L (gm j) = true ∧ tc L gm j = i
  | 0, i, h => by simp [tc] at h
  | k + 1, i, h => by
    rw [tc] at h
    by_cases c : i < tc L gm k
    · obtain ⟨j, h1, h2, h3⟩ := tk_of c
      exact ⟨j, by omega, h2, h3⟩
    · by_cases d : L (gm k) = true
      · rw [if_pos d] at h
        exact ⟨k, by omega, d, by omega⟩
      · rw [if_neg d] at h; omega
theorem lfg_at (hd : DG ng gm) : ∀ {k j : Nat}, k ≤ ng → j < k → L (gm j) = true → lfg L F gm k (gm j) = some (lvk L F gm j)
  | 0, j, _, h, _ => by omega
  | k + 1, j, hk, h, hl => by
    rw [lfg]
    by_cases e : j = k
    · subst e; rw [if_pos ⟨hl, rfl⟩]
    · rw [if_neg (fun z => e (hd.2.2 j k (by omega) (by omega) z.2))]
      exact lfg_at hd (by omega) (by omega) hl
theorem lfg_none : ∀ {k g : Nat}, lfg L F gm k g = none ↔ ¬ ∃ j, j < k ∧ L (gm j) = true ∧ gm j = g
  | 0, g => by simp [lfg]
  | k + 1, g => by
    rw [lfg]
    by_cases c : L (gm k) = true ∧ g = gm k
    · rw [if_pos c]
      constructor
      · intro h; cases h
      · intro h; exact absurd ⟨k, by omega, c.1, c.2.symm⟩ h
    · rw [if_neg c, lfg_none]
      constructor
      · rintro h ⟨j, h1, h2, h3⟩
        by_cases e : j = k
        · subst e; exact c ⟨h2, h3.symm⟩
        · exact h ⟨j, by omega, h2, h3⟩
      · rintro h ⟨j, h1, h2, h3⟩
        exact h ⟨j, by omega, h2, h3⟩
end GOP
theorem liftedAmong_eq {fo : Nat → Int32} {F : Nat → Nat → Bool} {S : Nat → Bool} {g : Nat} (hg : g < 10) (hf : fo g = M (F g)) : fX2_liftedAmong fo (nI g) (M S) = some (if S g then nI (cnt (fun x => F g x && S x) 10) else 0) := by
  unfold fX2_liftedAmong
  rw [has_M hg, Option.bind_some]
  by_cases c : S g = true
  · rw [if_pos c, if_neg (by decide), if_pos (chk_nI hg (by omega)), nI_clamp (by omega), hf, M_and, bitCount_M, Option.bind_some, if_pos c]
  · rw [if_neg c, if_pos rfl, if_neg c]
theorem letGo_eq {N ng : Nat} {gm : Nat → Nat} {L : Nat → Bool} {F : Nat → Nat → Bool} {fo lf tk bytes : Nat → Int32} {t0 a0 : Int32} (hN : 20 < N) (hd : DG ng gm) (ht : TG ng gm bytes) (hf : ∀ o, o < 10 → fo o = M (F o)) :
    ∃ lf' tk' : Nat → Int32, fX2_letGo N fo lf tk t0 (M L) a0 bytes (nI ng) = some (lf', tk', nI (tc L gm ng), nI (sm L F gm ng)) ∧ (∀ g, g < 10 → lf' g = oI (lfg L F gm ng g)) ∧ ∀ i, i < tc L gm ng → tk' i = nI (tkg L gm ng i) := by
  have hn := hd.1
  have second : ∀ lf : Nat → Int32, (∀ g, g < 10 → lf g = -3) → ∃ z, (∃ lf' tk' : Nat → Int32, z = some (lf', tk', nI (tc L gm ng), nI (sm L F gm ng)) ∧ (∀ g, g < 10 → lf' g = oI (lfg L F gm ng g)) ∧ ∀ i, i < tc L gm ng → tk' i = nI (tkg L gm ng i)) ∧ lp (bX2_letGo_39 N fo (M L) bytes (nI ng)) N (M L, 0, lf, tk, 0, 0) = z := by
    intro lf h1
    refine lp_for (b := bX2_letGo_39 N fo (M L) bytes (nI ng)) ng (fun k s => ∃ lf tk : Nat → Int32, s = (M (fun x => L x && !gn gm k x), nI k, lf, tk, nI (tc L gm k), nI (sm L F gm k)) ∧ (∀ g, g < 10 → lf g = oI (lfg L F gm k g)) ∧ ∀ i, i < tc L gm k → tk i = nI (tkg L gm k i)) _
      (fun k s hk hp => ?_) (fun s hp => ?_) (k := 0) (by omega) ⟨lf, tk, ?_, fun g hg => by rw [h1 g hg]; rfl, fun i hi => by simp [tc] at hi⟩ (by omega)
    · obtain ⟨lf, tk, rfl, h2, h3⟩ := hp
      have hc := hd.2.1 k hk
      have hnew := gn_new hd hk
      have htc := @tc_le L gm k
      have hsm := @sm_le L F gm k
      have hlv := @lvk_le L F gm k
      left
      by_cases c : L (gm k) = true
      · have hS : (L (gm k) && !gn gm k (gm k)) = true := by rw [c, hnew]; rfl
        refine ⟨_, ⟨upd lf (gm k) (nI (lvk L F gm k)), upd tk (tc L gm k) (nI (gm k)), rfl, fun g hg => ?_, fun i hi => ?_⟩, fun κ => ?_⟩
        · unfold upd
          rw [lfg]
          by_cases e : g = gm k
          · rw [if_pos e, if_pos ⟨c, e⟩]; rfl
          · rw [if_neg e, if_neg (fun z => e z.2)]; exact h2 g hg
        · unfold upd
          rw [tkg]
          rw [tc, if_pos c] at hi
          by_cases e : i = tc L gm k
          · rw [if_pos e, if_pos ⟨c, e⟩]
          · rw [if_neg e, if_neg (fun z => e z.2)]; exact h3 i (by omega)
        · unfold bX2_letGo_39 bX2_letGo_127 nm
          simp only
          rw [if_neg (by rw [nI_leI (by omega) (by omega)]; omega), guestAt_eq hd ht hk, Option.bind_some, has_M hc, Option.bind_some, if_pos c, if_neg (by decide), liftedAmong_eq hc (hf _ hc), Option.bind_some, if_pos hS, if_pos (chk_nI hc (by omega)), if_pos (chk_nI hc (by omega)), if_pos (chk_nI (show tc L gm k < 10 by omega) (by omega)), bit_in hc, Option.bind_some, nI_clamp (by omega), pk_us, nI_clamp (by omega), M_andn, nI_1, nI_1, nI_add, tc, if_pos c, sm, if_pos c]
          refine congrArg (fun z => κ (z, _)) (M_congr (fun x _ => ?_))
          rw [gn]
          cases L x <;> cases gn gm k x <;> simp
      · refine ⟨_, ⟨lf, tk, rfl, fun g hg => ?_, fun i hi => ?_⟩, fun κ => ?_⟩
        · rw [lfg, if_neg (fun z => c z.1)]; exact h2 g hg
        · rw [tkg, if_neg (fun z => c z.1)]
          rw [tc, if_neg c] at hi
          exact h3 i (by omega)
        · unfold bX2_letGo_39 bX2_letGo_127
          simp only
          rw [if_neg (by rw [nI_leI (by omega) (by omega)]; omega), guestAt_eq hd ht hk, Option.bind_some, has_M hc, Option.bind_some, if_neg c, if_pos rfl, nI_1, tc, if_neg c, sm, if_neg c]
          refine congrArg (fun z => κ (z, _)) (M_congr (fun x _ => ?_))
          rw [gn]
          by_cases e : x = gm k
          · subst e; simp [c]
          · simp [beq_false_of_ne e]
    · obtain ⟨lf, tk, rfl, h2, h3⟩ := hp
      refine ⟨_, ⟨lf, tk, rfl, h2, h3⟩, fun κ => ?_⟩
      unfold bX2_letGo_39
      simp only
      rw [if_pos (by rw [nI_leI (by omega) (by omega)]; omega)]
    · refine congrArg (fun z => (z, _)) (M_congr (fun x _ => ?_))
      simp [gn]
  unfold fX2_letGo
  obtain ⟨z, hz, e⟩ := lp_for (b := bX2_letGo_2 N fo (M L) bytes (nI ng) tk t0 a0) 10 (fun k s => ∃ a : Nat → Int32, s = (nI k, a) ∧ ∀ r, r < k → a r = -3) _
    (fun k s hk hp => by
      obtain ⟨a, rfl, ha⟩ := hp
      left
      refine ⟨(nI (k + 1), upd a k (-3)), ⟨_, rfl, fun r hr => ?_⟩, fun κ => ?_⟩
      · unfold upd
        by_cases e : r = k
        · rw [if_pos e]
        · rw [if_neg e]; exact ha r (by omega)
      · unfold bX2_letGo_2
        simp only
        rw [if_neg (by rw [li10, nI_leI (by omega) (by omega)]; omega), if_pos (chk_nI hk (by omega)), nI_clamp (by omega), nI_1])
    (fun s hp => by
      obtain ⟨a, rfl, ha⟩ := hp
      obtain ⟨z, hz, e⟩ := second a ha
      refine ⟨z, hz, fun κ => ?_⟩
      unfold bX2_letGo_2
      simp only
      rw [if_pos (by rw [li10, nI_leI (by omega) (by omega)]; omega)]
      exact e)
    (k := 0) (s := (0, lf)) (N := N) (by omega) ⟨lf, rfl, fun r hr => by omega⟩ (by omega)
  obtain ⟨lf', tk', h1, h2, h3⟩ := hz
  exact ⟨lf', tk', by rw [e, h1], h2, h3⟩
/-- goings, from the last one back -/
def rv (ng : Nat) (gm : Nat → Nat) : Nat → Nat := fun k => gm (ng - 1 - k)
theorem rv_next {L : Nat → Bool} {F : Nat → Nat → Bool} {gm : Nat → Nat} {ng : Nat} : ∀ (d k : Nat), k + d = ng → ∃ k', k ≤ k' ∧ k' ≤ ng ∧ sm L F (rv ng gm) k' = sm L F (rv ng gm) k ∧ (∀ x, (L x && !gn (rv ng gm) k' x) = (L x && !gn (rv ng gm) k x)) ∧ tc L gm (ng - k') = tc L gm (ng - k) ∧ (k' = ng ∨ (k' < ng ∧ L (rv ng gm k') = true))
  | 0, k, h => ⟨k, Nat.le_refl _, by omega, rfl, fun _ => rfl, rfl, Or.inl (by omega)⟩
  | d + 1, k, h => by
    by_cases c : L (rv ng gm k) = true
    · exact ⟨k, Nat.le_refl _, by omega, rfl, fun _ => rfl, rfl, Or.inr ⟨by omega, c⟩⟩
    · obtain ⟨k', h1, h2, h3, h4, h5, h6⟩ := rv_next (L := L) (F := F) (gm := gm) (ng := ng) d (k + 1) (by omega)
      refine ⟨k', by omega, h2, by rw [h3, sm, if_neg c, Nat.add_zero], fun x => ?_, ?_, h6⟩
      · rw [h4 x, gn]
        by_cases e : x = rv ng gm k
        · subst e; simp [c]
        · simp [beq_false_of_ne e]
      · have er : rv ng gm k = gm (ng - (k + 1)) := by unfold rv; congr 1; omega
        rw [er] at c
        rw [h5, show ng - k = (ng - (k + 1)) + 1 by omega, tc, if_neg c]
        exact (Nat.add_zero _).symm
theorem add_m1 (x : Int32) : x + (-1) = x - 1 := by rw [Int32.sub_eq_add_neg]
theorem backwards_eq {N ng : Nat} {gm : Nat → Nat} {L : Nat → Bool} {F : Nat → Nat → Bool} {fo tk : Nat → Int32} (hN : 20 < N) (hd : DG ng gm) (hf : ∀ o, o < 10 → fo o = M (F o)) (htk : ∀ i, i < tc L gm ng → tk i = nI (tkg L gm ng i)) : fX2_liftedBackwards N fo tk (nI (tc L gm ng)) (M L) = some (nI (sm L F (rv ng gm) ng)) := by
  have hn := hd.1
  have hi : ∀ t, t ≤ 10 → (nI t - 1 < 0 ↔ t = 0) := by decide
  have hi2 : ∀ t, t < 10 → nI (t + 1) - 1 = nI t := fun t _ => nI_pred t
  unfold fX2_liftedBackwards
  obtain ⟨r, hr, e⟩ := lp_run (b := bX2_liftedBackwards_14 N fo tk (nI (tc L gm ng)) (M L)) (fun m s => ∃ k, k ≤ ng ∧ m = tc L gm (ng - k) ∧ s = (nI (sm L F (rv ng gm) k), M (fun x => L x && !gn (rv ng gm) k x), nI (tc L gm (ng - k)) - 1)) (fun r => r = some (nI (sm L F (rv ng gm) ng)))
    (fun m s hp => by
      obtain ⟨k0, g1, g2, rfl⟩ := hp
      obtain ⟨k, h1, h2, h3, h4, h5, h6⟩ := rv_next (L := L) (F := F) (gm := gm) (ng := ng) (ng - k0) k0 (by omega)
      rw [← h5] at g2
      rw [← h3, ← h5, ← M_congr (fun x _ => h4 x)]
      have htc := @tc_le L gm (ng - k)
      rcases h6 with h6 | ⟨h6, h7⟩
      · subst h6
        right
        refine ⟨_, rfl, fun κ => ?_⟩
        unfold bX2_liftedBackwards_14
        simp only
        rw [if_pos ((hi _ (by omega)).mpr (by rw [Nat.sub_self]; rfl))]
      · left
        have ek : ng - k = (ng - (k + 1)) + 1 := by omega
        have er : rv ng gm k = gm (ng - (k + 1)) := by unfold rv; congr 1; omega
        have et : tc L gm (ng - k) = tc L gm (ng - (k + 1)) + 1 := by rw [ek, tc, if_pos (by rw [← er]; exact h7)]
        have hlt : tc L gm (ng - (k + 1)) < tc L gm ng := by
          have := tc_mono (L := L) (gm := gm) (show ng - k ≤ ng by omega)
          omega
        have hg := (tkg_at (L := L) (F := F) (gm := gm) (k := ng) (j := ng - (k + 1)) (by omega) (by rw [← er]; exact h7)).1
        have hc := hd.2.1 (ng - (k + 1)) (by omega)
        have hnw : gn (rv ng gm) k (gm (ng - (k + 1))) = false := by
          cases q : gn (rv ng gm) k (gm (ng - (k + 1))) with
          | false => rfl
          | true =>
            obtain ⟨j, q1, q2⟩ := gn_iff.mp q
            have := hd.2.2 (ng - (k + 1)) (ng - 1 - j) (by omega) (by omega) q2
            omega
        have hS : (L (gm (ng - (k + 1))) && !gn (rv ng gm) k (gm (ng - (k + 1)))) = true := by rw [hnw, ← er, h7]; rfl
        refine ⟨tc L gm (ng - (k + 1)), _, by omega, ⟨k + 1, by omega, rfl, rfl⟩, fun κ => ?_⟩
        unfold bX2_liftedBackwards_14
        simp only
        rw [et, hi2 _ (by omega), if_neg (nI_pos (by omega)), if_pos (chk_nI (by omega) (by omega)), nI_clamp (by omega), htk _ hlt, hg, liftedAmong_eq hc (hf _ hc), Option.bind_some, if_pos hS, if_pos (chk_nI (by omega) (by omega)), bit_in hc, Option.bind_some, M_andn, nI_add, sm, if_pos h7]
        have e1 : lvk L F (rv ng gm) k = cnt (fun x => F (gm (ng - (k + 1))) x && (L x && !gn (rv ng gm) k x)) 10 := by unfold lvk; rw [er]
        rw [e1]
        refine congrArg κ ?_
        refine congrArg (fun z => (_, z)) ?_
        refine Prod.ext (M_congr (fun x _ => ?_)) (add_m1 _)
        rw [gn, er]
        cases L x <;> cases gn (rv ng gm) k x <;> simp)
    N (tc L gm ng) (0, M L, nI (tc L gm ng) - 1) ⟨0, by omega, rfl, by
      rw [Nat.sub_zero]
      refine congrArg (fun z => ((0 : Int32), z, _)) (M_congr (fun x _ => by simp [gn]))⟩ (by have := @tc_le L gm ng; omega)
  rw [e, hr]

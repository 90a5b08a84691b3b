/-! 28: wrong -/
def itw (wm : Nat → Nat) (x : Nat) : Nat → Nat
  | 0 => x
  | k + 1 => wm (itw wm x k)
section IT
variable {wm : Nat → Nat} {W x : Nat}
theorem itw_lt (hw : ∀ k, k < W → wm k < W) (hx : x < W) : ∀ k, itw wm x k < W
  | 0 => hx
  | k + 1 => hw _ (itw_lt hw hx k)
theorem itw_back (hd : DG W wm) (hw : ∀ k, k < W → wm k < W) (hx : x < W) : ∀ {i d : Nat}, itw wm x i = itw wm x (i + d) → x = itw wm x d
  | 0, d, h => by rw [Nat.zero_add] at h; exact h
  | i + 1, d, h => by
    rw [show i + 1 + d = (i + d) + 1 by omega] at h
    exact itw_back hd hw hx (hd.2.2 _ _ (itw_lt hw hx i) (itw_lt hw hx (i + d)) h)
theorem itw_ex (hd : DG W wm) (hw : ∀ k, k < W → wm k < W) (hx : x < W) : ∃ m, 1 ≤ m ∧ m ≤ W ∧ itw wm x m = x := by
  refine Classical.byContradiction (fun hno => ?_)
  have hn : ∀ m, 1 ≤ m → m ≤ W → ¬ itw wm x m = x := fun m h1 h2 h3 => hno ⟨m, h1, h2, h3⟩
  have hW := hd.1
  have dg : DG W (fun k => itw wm x (k + 1)) := by
    refine ⟨hW, fun k _ => Nat.lt_of_lt_of_le (itw_lt hw hx (k + 1)) hW, fun i j hi hj h => ?_⟩
    rcases Nat.lt_trichotomy i j with c | c | c
    · obtain ⟨d, rfl⟩ : ∃ d, j = i + d := ⟨j - i, by omega⟩
      have h' : itw wm x (i + 1) = itw wm x (i + 1 + d) := by rw [show i + 1 + d = i + d + 1 by omega]; exact h
      exact absurd (itw_back hd hw hx h').symm (hn d (by omega) (by omega))
    · exact c
    · obtain ⟨d, rfl⟩ : ∃ d, i = j + d := ⟨i - j, by omega⟩
      have h' : itw wm x (j + 1) = itw wm x (j + 1 + d) := by rw [show j + 1 + d = j + d + 1 by omega]; exact h.symm
      exact absurd (itw_back hd hw hx h').symm (hn d (by omega) (by omega))
  have e1 : cnt (gn (fun k => itw wm x (k + 1)) W) 10 = W := cnt_gn dg (Nat.le_refl _)
  have e2 : cnt (fun g => decide (g < W)) 10 = W := cnt_lt 10 W hW
  have hs := cnt_same (S := gn (fun k => itw wm x (k + 1)) W) (T := fun g => decide (g < W)) (m := 10) (fun g _ h => by
    obtain ⟨j, _, rfl⟩ := gn_iff.mp h
    rw [decide_eq_true_eq]
    exact itw_lt hw hx (j + 1)) (by rw [e1, e2]; exact Nat.le_refl _) x (by omega)
  rw [show decide (x < W) = true by rw [decide_eq_true_eq]; exact hx] at hs
  obtain ⟨j, h1, h2⟩ := gn_iff.mp hs
  exact hn (j + 1) (by omega) (by omega) h2.symm
theorem least_ex {P : Nat → Prop} : ∀ {m : Nat}, 1 ≤ m → P m → ∃ k, 1 ≤ k ∧ k ≤ m ∧ P k ∧ ∀ j, 1 ≤ j → j < k → ¬ P j := by
  intro m
  induction m using Nat.strongRecOn with
  | _ m ih =>
    intro h1 hp
    by_cases c : ∃ j, 1 ≤ j ∧ j < m ∧ P j
    · obtain ⟨j, a, b, d⟩ := c
      obtain ⟨k, k1, k2, k3, k4⟩ := ih j b a d
      exact ⟨k, k1, by omega, k3, k4⟩
    · exact ⟨m, h1, Nat.le_refl _, hp, fun j a b d => c ⟨j, a, b, d⟩⟩
theorem ring67 {N : Nat} {bytes worn : Nat → Int32} (hN : 20 < N) (hd : DG W wm) (hw : ∀ k, k < W → wm k < W) (ht : TG W wm bytes) (hc : CA W wm worn) (hx : x < W) : ∃ a, fX4_ringLength N bytes (nI W) (nI x) = some a ∧ fX7_ringOf N worn (nI x) = some a := by
  have hW := hd.1
  obtain ⟨m0, a1, a2, a3⟩ := itw_ex hd hw hx
  obtain ⟨m, b1, b2, b3, b4⟩ := least_ex (P := fun m => itw wm x m = x) a1 a3
  have hlt := fun k => itw_lt hw hx k
  have i0 : ((1 : Int32), nI (wm x)) = (fun d => (nI (d + 1), nI (itw wm x (d + 1)))) 0 := rfl
  refine ⟨nI m, ?_, ?_⟩
  · unfold fX4_ringLength
    rw [guestAt_eq hd ht hx, Option.bind_some, i0]
    refine lp_eq0 (m - 1) (fun d => (nI (d + 1), nI (itw wm x (d + 1)))) _ (by omega) (fun d hdl κ => ?_) (fun κ => ?_)
    · have := hlt (d + 1)
      unfold bX4_ringLength_8
      simp only
      rw [if_neg (by rw [nI_leI (by omega) (by omega)]; omega), if_neg (by rw [nI_eq (by omega) (by omega)]; exact b4 (d + 1) (by omega) (by omega)), guestAt_eq hd ht (hlt (d + 1)), Option.bind_some, nI_1]
      rfl
    · unfold bX4_ringLength_8
      simp only
      rw [show m - 1 + 1 = m by omega, b3, if_pos (show nI x = nI x from rfl), ite_self]
  · unfold fX7_ringOf
    rw [if_pos (chk_nI (by omega) (by omega)), nI_clamp (by omega), hc x hx, i0]
    refine lp_eq0 (m - 1) (fun d => (nI (d + 1), nI (itw wm x (d + 1)))) _ (by omega) (fun d hdl κ => ?_) (fun κ => ?_)
    · have := hlt (d + 1)
      unfold bX7_ringOf_9
      simp only
      rw [if_neg (by rw [nI_eq (by omega) (by omega)]; exact b4 (d + 1) (by omega) (by omega)), if_pos (chk_nI (by omega) (by omega)), nI_clamp (by omega), hc _ (hlt (d + 1)), nI_1]
      rfl
    · unfold bX7_ringOf_9
      simp only
      rw [show m - 1 + 1 = m by omega, b3, if_pos (show nI x = nI x from rfl)]
theorem wrongAll6 {N : Nat} {bytes : Nat → Int32} {p : Int32} (hN : 20 < N) (hd : DG W wm) (ht : TG W wm bytes) : lp (bX6_wrong_40 N bytes (nI W) p) N (0, 0) = some (nI (cnt (fun k => !(wm k == k)) W)) := by
  have hW := hd.1
  refine lp_eq0 W (fun k => (nI (cnt (fun k => !(wm k == k)) k), nI k)) _ (by omega) (fun k hk κ => ?_) (fun κ => ?_)
  · have h1 := hd.2.1 k hk
    unfold bX6_wrong_40 bX6_wrong_63
    simp only
    rw [if_neg (by rw [nI_leI (by omega) (by omega)]; omega), guestAt_eq hd ht hk, Option.bind_some, nI_1, nI_1, cnt]
    by_cases c : wm k = k
    · rw [if_pos (by rw [c])]; simp [c]
    · rw [if_neg (by rw [nI_eq (by omega) (by omega)]; exact c)]; simp [c]
  · unfold bX6_wrong_40
    simp only
    rw [if_pos (by rw [nI_leI (by omega) (by omega)]; omega)]
theorem wrongAll7 {N : Nat} {worn : Nat → Int32} (hN : 20 < N) (hd : DG W wm) (hc : CA W wm worn) : fX7_wrongAll N (nI W) worn = some (nI (cnt (fun k => !(wm k == k)) W)) := by
  have hW := hd.1
  unfold fX7_wrongAll
  refine lp_eq0 W (fun k => (nI (cnt (fun k => !(wm k == k)) k), nI k)) _ (by omega) (fun k hk κ => ?_) (fun κ => ?_)
  · have h1 := hd.2.1 k hk
    unfold bX7_wrongAll_4 bX7_wrongAll_28
    simp only
    rw [if_neg (by rw [nI_leI (by omega) (by omega)]; omega), if_pos (chk_nI (by omega) (by omega)), nI_clamp (by omega), hc k hk, nI_1, nI_1, cnt]
    by_cases c : wm k = k
    · rw [if_pos (by rw [c]), show (0 : Int32) = nI 0 from rfl, nI_add]; simp [c]
    · rw [if_neg (by rw [nI_eq (by omega) (by omega)]; exact c)]; simp [c]
  · unfold bX7_wrongAll_4
    simp only
    rw [if_pos (by rw [nI_leI (by omega) (by omega)]; omega)]
end IT
theorem w_lt {n : Nat → Nat} {β : Nat → Nat → Nat} (h2 : n 2 ≤ 10) : ∀ k, k < tW n β → lt β 2 k < tW n β := fun k hk => by
  have := (okc_lo (w_ok h2 hk)).2.2.1
  rw [decide_eq_true_eq] at this
  exact this
theorem wrong67 {N : Nat} {n : Nat → Nat} {β : Nat → Nat → Nat} {typed texts coming going worn b : Nat → Int32} {comes came goes wears z : Int32} (hN : 20 < N) (hT : TM n β typed texts) (hX : TX n β 2 b z) (p : Int32) : ∃ a, fX6_wrong N b (nI (tW n β)) p = some a ∧ ∃ R, fX7_wrong N typed texts comes coming came goes going wears worn p = some R ∧ R.1 = a := by
  have h2 := (hT 2 (by omega)).2.1
  have d2 := dg_w (β := β) h2
  have hW := d2.1
  have ht : TG (tW n β) (lt β 2) b := tx_tg hX tW_le (fun k hk => w_ok h2 hk)
  have hc : CA (tW n β) (lt β 2) (fl worn (fun k => nI (β 2 k - 97)) (tW n β)) := ca_fl
  unfold fX6_wrong fX7_wrong
  rw [within_eq, Option.bind_some, reads_eq hN hT, Option.bind_some]
  simp only
  rw [in_eq, Option.bind_some, wrongAll6 hN d2 ht, wrongAll7 hN d2 hc, Option.bind_some]
  by_cases c : p = -1
  · have hin : (-1 : Int32) ≤ p ∧ p ≤ nI (tW n β) - 1 := by
      rw [c]
      have : ∀ t, t ≤ 10 → (-1 : Int32) ≤ -1 ∧ (-1 : Int32) ≤ nI t - 1 := by decide
      exact this _ hW
    rw [if_pos hin, if_neg (by decide), if_pos c, if_pos c]
    exact ⟨_, rfl, _, rfl, rfl⟩
  · rw [if_neg c, if_neg c]
    by_cases d : (-1 : Int32) ≤ p ∧ p ≤ nI (tW n β) - 1
    · rcases hcase hW d with h | ⟨j, h1, rfl⟩
      · exact absurd h c
      · obtain ⟨a, e1, e2⟩ := ring67 hN d2 (w_lt h2) ht hc h1
        have d' : (0 : Int32) ≤ nI j ∧ nI j ≤ nI (tW n β) - 1 := ⟨nI_pos' (by omega), d.2⟩
        rw [if_pos d, if_neg (by decide), e1, Option.bind_some, if_pos d', if_neg (by decide), e2, Option.bind_some]
        exact ⟨_, rfl, _, rfl, rfl⟩
    · rw [if_neg d, if_pos rfl, if_neg (show ¬ ((0 : Int32) ≤ p ∧ p ≤ nI (tW n β) - 1) from fun h => d ⟨Int32.le_trans (show (-1 : Int32) ≤ 0 by decide) h.1, h.2⟩), if_pos rfl]
      exact ⟨_, rfl, _, rfl, rfl⟩

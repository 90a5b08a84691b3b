/-! 29: swaps -/
def wk (wm : Nat → Nat) : Nat → (Nat → Bool) → Nat → (Nat → Bool)
  | 0, S, _ => S
  | f + 1, S, x => if S x then S else wk wm f (fun g => S g || (g == x)) (wm x)
def rk (wm : Nat → Nat) (W : Nat) : Nat → Nat × (Nat → Bool)
  | 0 => (0, fun _ => false)
  | k + 1 => ((rk wm W k).1 + (if (rk wm W k).2 k then 0 else 1), wk wm W (rk wm W k).2 k)
abbrev lft (W : Nat) (S : Nat → Bool) : Nat → Bool := fun g => decide (g < W) && !S g
theorem shl_M {x : Nat} (h : x < 10) : (1 : Int32) <<< (nI x &&& 31) = M (fun g => g == x) := by
  have : ∀ x, x < 10 → (1 : Int32) <<< (nI x &&& 31) = M (fun g => g == x) := by decide
  exact this x h
theorem all_M {W : Nat} (h : W ≤ 10) : (1 : Int32) <<< (nI W &&& 31) - 1 = M (fun g => decide (g < W)) := by
  have : ∀ W, W ≤ 10 → (1 : Int32) <<< (nI W &&& 31) - 1 = M (fun g => decide (g < W)) := by decide
  exact this W h
section SW
variable {wm : Nat → Nat} {W : Nat}
theorem walk6 {N : Nat} {bytes : Nat → Int32} {v1 : Int32} {k : Nat} {κ : (Int32 × Int32 × Int32) → Option Int32} (hd : DG W wm) (hw : ∀ k, k < W → wm k < W) (ht : TG W wm bytes) : ∀ (f n x : Nat) (S : Nat → Bool), f < n → f ≤ W → x < W → lp (bX4_countRings_31 N bytes (nI W) κ v1 (nI k)) n (M S, nI x, nI (W - f)) = κ (v1, M (wk wm f S x), nI (k + 1))
  | f, 0, x, S, h, _, _ => absurd h (Nat.not_lt_zero _)
  | 0, n + 1, x, S, h, hf, hx => by
    have hW := hd.1
    rw [lp_s]
    unfold bX4_countRings_31 bX4_countRings_71
    simp only
    rw [if_pos (by rw [nI_leI (by omega) (by omega)]; omega), nI_1]
    rfl
  | f + 1, n + 1, x, S, h, hf, hx => by
    have hW := hd.1
    have ih := walk6 (N := N) (bytes := bytes) (v1 := v1) (k := k) (κ := κ) hd hw ht f n (wm x) (fun g => S g || (g == x)) (by omega) (by omega) (hw x hx)
    have st : ∀ k31, bX4_countRings_31 N bytes (nI W) κ v1 (nI k) k31 (M S, nI x, nI (W - (f + 1))) = if S x = true then κ (v1, M S, nI (k + 1)) else k31 (M (fun g => S g || (g == x)), nI (wm x), nI (W - f)) := by
      intro k31
      unfold bX4_countRings_31 bX4_countRings_71
      simp only
      rw [if_neg (by rw [nI_leI (by omega) (by omega)]; omega), has_M (by omega), Option.bind_some]
      by_cases c : S x = true
      · rw [if_pos c, if_neg (by decide), if_pos c, nI_1]
      · rw [if_neg c, if_pos rfl, if_neg c, bit_in (by omega), Option.bind_some, guestAt_eq hd ht hx, Option.bind_some, M_or, nI_1, show W - (f + 1) + 1 = W - f by omega]
    rw [lp_s, st, wk, ih]
    by_cases c : S x = true
    · rw [if_pos c, if_pos c]
    · rw [if_neg c, if_neg c]
theorem lft_cnt {S : Nat → Bool} {x : Nat} (hx : x < W) (hW : W ≤ 10) (c : ¬ S x = true) : cnt (lft W S) 10 = cnt (lft W (fun g => S g || (g == x))) 10 + 1 := by
  rw [← cnt_ins (S := lft W (fun g => S g || (g == x))) (x := x) (show x < 10 by omega) (by simp)]
  refine cnt_congr (fun g _ => ?_)
  by_cases w : g = x
  · subst w; simp [lft, hx, c]
  · simp [lft, beq_false_of_ne w, w]
theorem walk7 {N : Nat} {typed texts coming going worn : Nat → Int32} {comes came goes wears v2 : Int32} {k : Nat} {κ : (Int32 × Int32 × Int32) → Option (Int32 × Int32 × (Nat → Int32) × Int32 × Int32 × (Nat → Int32) × Int32 × (Nat → Int32))} (hd : DG W wm) (hw : ∀ k, k < W → wm k < W) (hc : CA W wm worn) : ∀ (f n x : Nat) (S : Nat → Bool), f < n → cnt (lft W S) 10 ≤ f → x < W → lp (bX7_swapsNow_44 N typed texts comes coming came goes going wears worn κ v2 (nI k)) n (M (lft W S), nI x) = κ (M (lft W (wk wm f S x)), v2, nI (k + 1))
  | f, 0, x, S, h, _, _ => absurd h (Nat.not_lt_zero _)
  | f, n + 1, x, S, h, hf, hx => by
    have hW := hd.1
    rw [lp_s]
    unfold bX7_swapsNow_44
    simp only
    rw [isIn_M (by omega), Option.bind_some]
    by_cases c : S x = true
    · rw [if_neg (show ¬ lft W S x = true by simp [lft, c]), if_pos rfl, nI_1]
      cases f with
      | zero => rfl
      | succ f => rw [wk, if_pos c]
    · have hl := lft_cnt hx hW c
      obtain ⟨f', rfl⟩ : ∃ f', f = f' + 1 := ⟨f - 1, by omega⟩
      have ih := walk7 (N := N) (typed := typed) (texts := texts) (coming := coming) (going := going) (worn := worn) (comes := comes) (came := came) (goes := goes) (wears := wears) (v2 := v2) (k := k) (κ := κ) hd hw hc f' n (wm x) (fun g => S g || (g == x)) (by omega) (by omega) (hw x hx)
      rw [if_pos (show lft W S x = true by simp [lft, c, hx]), if_neg (by decide), if_pos (chk_nI (by omega) (by omega)), nI_clamp (by omega), hc x hx, shl_M (by omega), M_andn, wk, if_neg c, M_congr (T := lft W (fun g => S g || (g == x))) (fun g _ => by simp only [lft]; cases decide (g < W) <;> cases S g <;> cases (g == x) <;> rfl)]
      exact ih
theorem rk_le : ∀ k, (rk wm W k).1 ≤ k
  | 0 => Nat.le_refl _
  | k + 1 => by
    show (rk wm W k).1 + _ ≤ k + 1
    have := rk_le k
    split <;> omega
theorem rings6 {N : Nat} {bytes : Nat → Int32} (hN : 20 < N) (hd : DG W wm) (hw : ∀ k, k < W → wm k < W) (ht : TG W wm bytes) : fX4_countRings N bytes (nI W) = some (nI (rk wm W W).1) := by
  have hW := hd.1
  unfold fX4_countRings
  have i0 : ((0 : Int32), (0 : Int32), (0 : Int32)) = (fun k => (nI (rk wm W k).1, M (rk wm W k).2, nI k)) 0 := by simp only [rk]; rw [← M_none]; rfl
  rw [i0]
  refine lp_eq0 W (fun k => (nI (rk wm W k).1, M (rk wm W k).2, nI k)) _ (by omega) (fun k hk κ => ?_) (fun κ => ?_)
  · have e : ∀ v1 : Int32, bX4_countRings_25 N bytes (nI W) κ v1 (M (rk wm W k).2) (nI k) = κ (v1, M (rk wm W (k + 1)).2, nI (k + 1)) := by
      intro v1
      have := walk6 (N := N) (bytes := bytes) (v1 := v1) (k := k) (κ := κ) hd hw ht W N k (rk wm W k).2 (by omega) (Nat.le_refl _) hk
      rw [Nat.sub_self] at this
      exact this
    unfold bX4_countRings_6
    simp only
    rw [if_neg (by rw [nI_leI (by omega) (by omega)]; omega), has_M (by omega), Option.bind_some, e, e, nI_1]
    by_cases c : (rk wm W k).2 k = true
    · rw [if_pos c, if_neg (by decide), show (rk wm W (k + 1)).1 = (rk wm W k).1 + (if (rk wm W k).2 k then 0 else 1) from rfl, if_pos c]
      rfl
    · rw [if_neg c, if_pos rfl, show (rk wm W (k + 1)).1 = (rk wm W k).1 + (if (rk wm W k).2 k then 0 else 1) from rfl, if_neg c]
  · unfold bX4_countRings_6
    simp only
    rw [if_pos (by rw [nI_leI (by omega) (by omega)]; omega)]
end SW
theorem swaps6 {N : Nat} {n : Nat → Nat} {β : Nat → Nat → Nat} {b : Nat → Int32} {z : Int32} (hN : 20 < N) (h2 : n 2 ≤ 10) (hX : TX n β 2 b z) : fX6_swaps N b (nI (tW n β)) = some (nI (tW n β - (rk (lt β 2) (tW n β) (tW n β)).1)) := by
  unfold fX6_swaps
  rw [rings6 hN (dg_w h2) (w_lt h2) (tx_tg hX tW_le (fun k hk => w_ok h2 hk)), Option.bind_some, pk_sub (rk_le _)]
theorem swaps7 {N : Nat} {n : Nat → Nat} {β : Nat → Nat → Nat} {typed texts coming going worn : Nat → Int32} {comes came goes wears : Int32} (hN : 20 < N) (hT : TM n β typed texts) : ∃ R, fX7_swaps N typed texts comes coming came goes going wears worn = some R ∧ R.1 = nI (tW n β - (rk (lt β 2) (tW n β) (tW n β)).1) := by
  have h2 := (hT 2 (by omega)).2.1
  have hd := dg_w (β := β) h2
  have hw := w_lt (β := β) h2
  have hW := hd.1
  have hc : CA (tW n β) (lt β 2) (fl worn (fun k => nI (β 2 k - 97)) (tW n β)) := ca_fl
  unfold fX7_swaps fX7_swapsNow
  rw [reads_eq hN hT, Option.bind_some]
  simp only
  generalize hWW : tW n β = W at *
  generalize fl worn (fun k => nI (β 2 k - 97)) W = wn at *
  rw [all_M hW]
  have i0 : (M (fun g => decide (g < W)), (0 : Int32), (0 : Int32)) = (fun k => (M (lft W (rk (lt β 2) W k).2), nI (rk (lt β 2) W k).1, nI k)) 0 := by
    rw [M_congr (S := fun g => decide (g < W)) (T := lft W (rk (lt β 2) W 0).2) (fun g _ => by simp [rk])]; rfl
  rw [i0]
  have key : lp (bX7_swapsNow_17 N typed texts (nI (tC n β)) (fl coming (fun k => nI (β 0 k - 97)) (tC n β)) (M (cS n β)) (nI (tG n β)) (fl going (fun k => nI (β 1 k - 97)) (tG n β)) (nI W) wn) N ((fun k => (M (lft W (rk (lt β 2) W k).2), nI (rk (lt β 2) W k).1, nI k)) 0) = some (nI (W - (rk (lt β 2) W W).1), nI (tC n β), fl coming (fun k => nI (β 0 k - 97)) (tC n β), M (cS n β), nI (tG n β), fl going (fun k => nI (β 1 k - 97)) (tG n β), nI W, wn) := by
    refine lp_eq0 W (fun k => (M (lft W (rk (lt β 2) W k).2), nI (rk (lt β 2) W k).1, nI k)) _ (by omega) (fun k hk κ => ?_) (fun κ => ?_)
    · have hle : ∀ S, cnt (lft W S) 10 ≤ W := fun S => by
        have := cnt_mono (S := lft W S) (T := fun g => decide (g < W)) (m := 10) (fun g _ h => (Bool.and_eq_true _ _ ▸ h).1)
        rw [cnt_lt 10 W hW] at this
        exact this
      unfold bX7_swapsNow_17 bX7_swapsNow_39
      simp only
      rw [if_neg (by rw [nI_leI (by omega) (by omega)]; omega), isIn_M (by omega), Option.bind_some, walk7 hd hw hc W N k (rk (lt β 2) W k).2 (by omega) (hle _) hk, walk7 hd hw hc W N k (rk (lt β 2) W k).2 (by omega) (hle _) hk]
      show _ = κ (M (lft W (wk (lt β 2) W (rk (lt β 2) W k).2 k)), nI ((rk (lt β 2) W k).1 + (if (rk (lt β 2) W k).2 k then 0 else 1)), nI (k + 1))
      by_cases c : (rk (lt β 2) W k).2 k = true
      · rw [if_neg (show ¬ lft W (rk (lt β 2) W k).2 k = true by simp [lft, c]), if_pos rfl, if_pos c, show (0 : Int32) = nI 0 from rfl, nI_add]
      · rw [if_pos (show lft W (rk (lt β 2) W k).2 k = true by simp [lft, c, hk]), if_neg (by decide), if_neg c, nI_1]
    · unfold bX7_swapsNow_17
      simp only
      rw [if_pos (by rw [nI_leI (by omega) (by omega)]; omega), pk_sub (rk_le _)]
  rw [key, Option.bind_some]
  exact ⟨_, rfl, rfl⟩

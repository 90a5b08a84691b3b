/-! 32: night, the class's inner loop -/
def ch (S : Nat → Bool) (q : Nat) : Nat → Nat
  | 0 => 0
  | m + 1 => if (S m && (cnt S m == q)) = true then m else ch S q m
theorem ch_ok {S : Nat → Bool} {q : Nat} : ∀ {m : Nat}, q < cnt S m → ch S q m < m ∧ S (ch S q m) = true ∧ cnt S (ch S q m) = q
  | 0, h => absurd h (Nat.not_lt_zero _)
  | m + 1, h => by
    rw [ch]
    by_cases c : (S m && (cnt S m == q)) = true
    · rw [if_pos c]
      rw [Bool.and_eq_true, beq_iff_eq] at c
      exact ⟨by omega, c⟩
    · rw [if_neg c]
      have h' : q < cnt S m := by
        rw [cnt] at h
        cases w : S m with
        | true =>
          rw [w, if_pos rfl] at h
          have : ¬ cnt S m = q := fun e => c (by rw [w, e]; simp)
          omega
        | false => rw [w, if_neg (by decide)] at h; exact h
      obtain ⟨a, b⟩ := ch_ok h'
      exact ⟨by omega, b⟩
def sd (s : Int32) : Int32 := s * (1103515245 : Int32) + (12345 : Int32)
def su (s : Int32) : Int32 := (s.toUInt32 >>> (((16 : Int32)).toUInt32 &&& Int32.toUInt32 31)).toInt32
def ng (S : Nat → Bool) (s : Int32) (r : Nat) : Nat := ch S (Int32.toNatClampNeg (su s) % r) 10
def nin (L : Nat → Bool) (F : Nat → Nat → Bool) : Nat → Int32 → Int64 → (Nat → Bool) → Int32 × Int64
  | 0, s, t, _ => (s, t)
  | r + 1, s, t, S => nin L F r (sd s) (t + (if L (ng S (sd s) (r + 1)) then nI (cnt (fun x => F (ng S (sd s) (r + 1)) x && (L x && S x)) 10) else 0).toInt64) (fun g => S g && !(g == ng S (sd s) (r + 1)))
theorem su_rem {s : Int32} {r : Nat} (hr : r ≤ 10) (h0 : 0 < r) : su s - su s / nI r * nI r = nI (Int32.toNatClampNeg (su s) % r) := by
  obtain ⟨u, h1, h2⟩ := ush16 s
  have h2' : su s = nI u := h2
  rw [h2', pk_rem (by omega) h0 (by omega), nI_clamp (by omega)]
theorem cnt_del {S : Nat → Bool} {x : Nat} (hx : x < 10) (h : S x = true) : cnt S 10 = cnt (fun g => S g && !(g == x)) 10 + 1 := by
  rw [← cnt_ins (S := fun g => S g && !(g == x)) (x := x) hx (by simp)]
  refine cnt_congr (fun g _ => ?_)
  by_cases w : g = x
  · subst w; simp [h]
  · rw [beq_false_of_ne w, Bool.not_false, Bool.and_true, Bool.or_false]
theorem night6in {N : Nat} {known bits laid p1 p2 v3 : Int32} {fo : Nat → Int32} {L : Nat → Bool} {F : Nat → Nat → Bool} {v : Nat} {κ : (Int32 × Int64 × Int32) → Option Int64} (hN : 20 < N) (hf : ∀ o, o < 10 → fo o = M (F o)) : ∀ (r n : Nat) (s : Int32) (t : Int64) (S : Nat → Bool), r < n → cnt S 10 = r → lp (bX6_night_64 N known bits fo laid p1 p2 v3 κ (nI v)) n (s, t, M S, M (fun g => L g && S g), nI r) = κ ((nin L F r s t S).1, (nin L F r s t S).2, nI (v + 1))
  | r, 0, s, t, S, h, _ => absurd h (Nat.not_lt_zero _)
  | 0, n + 1, s, t, S, h, hc => by
    rw [lp_s]
    unfold bX6_night_64
    simp only
    rw [if_pos (by decide), nI_1]
    rfl
  | r + 1, n + 1, s, t, S, h, hc => by
    have h10 := cnt_le S 10
    obtain ⟨g1, g2, g3⟩ := ch_ok (S := S) (q := Int32.toNatClampNeg (su (sd s)) % (r + 1)) (m := 10) (by rw [hc]; exact Nat.mod_lt _ (by omega))
    have hg : ng S (sd s) (r + 1) = ch S (Int32.toNatClampNeg (su (sd s)) % (r + 1)) 10 := rfl
    rw [← hg] at g1 g2 g3
    have ih := night6in (N := N) (known := known) (bits := bits) (laid := laid) (p1 := p1) (p2 := p2) (v3 := v3) (fo := fo) (L := L) (F := F) (v := v) (κ := κ) hN hf r n (sd s) (t + (if L (ng S (sd s) (r + 1)) then nI (cnt (fun x => F (ng S (sd s) (r + 1)) x && (L x && S x)) 10) else 0).toInt64) (fun g => S g && !(g == ng S (sd s) (r + 1))) (by omega) (by have := cnt_del g1 g2; omega)
    have st : ∀ k64, bX6_night_64 N known bits fo laid p1 p2 v3 κ (nI v) k64 (s, t, M S, M (fun g => L g && S g), nI (r + 1)) = k64 (sd s, t + (if L (ng S (sd s) (r + 1)) then nI (cnt (fun x => F (ng S (sd s) (r + 1)) x && (L x && S x)) 10) else 0).toInt64, M (fun g => S g && !(g == ng S (sd s) (r + 1))), M (fun g => L g && (S g && !(g == ng S (sd s) (r + 1)))), nI r) := by
      intro k64
      unfold bX6_night_64 nm
      simp only
      rw [if_neg (show ¬ nI (r + 1) ≤ 0 by rw [li0, nI_leI (by omega) (by omega)]; omega), if_pos (show ¬ nI (r + 1) = 0 by rw [li0, nI_eq (by omega) (by omega)]; omega)]
      show (fX6_guestOf N (M S) (su (sd s) - su (sd s) / nI (r + 1) * nI (r + 1))).bind _ = _
      rw [su_rem (by omega) (by omega), guestOf6 hN g1 g2 g3, Option.bind_some, liftedAmong_eq g1 (hf _ g1), Option.bind_some, bit_in g1, Option.bind_some, Option.bind_some, pk_m1, M_andn, M_andn, g2, Bool.and_true, M_congr (S := fun g => (L g && S g) && !(g == ng S (sd s) (r + 1))) (T := fun g => L g && (S g && !(g == ng S (sd s) (r + 1)))) (fun g _ => by rw [Bool.and_assoc])]
      rfl
    rw [lp_s, st]
    exact ih

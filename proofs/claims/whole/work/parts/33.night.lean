/-! 33: night, the model's inner loop -/
theorem night7in {N n0 dp : Nat} {row cm : Nat → Nat} {typed texts rowOf coming going worn manyIn : Nat → Int32} {deep p1 p2 came goes wears judgedNow : Int32} {v : Nat} {κ : (Int32 × Int64 × Int32) → Option (Int64 × Int32 × (Nat → Int32) × Int32 × Int32 × (Nat → Int32) × Int32 × (Nat → Int32) × Int32 × Int32 × (Nat → Int32))} (hN : 20 < N) (hd : DG n0 cm) (hca : CA n0 cm coming) (hrow : ∀ g, g < 10 → rowOf g = nI (row g) ∧ row g < 10) : ∀ (r n : Nat) (s : Int32) (t : Int64) (S : Nat → Bool), r < n → cnt S 10 = r → lp (bX7_nightOf_24 N typed texts rowOf deep p1 p2 (nI n0) coming came goes going wears worn (M (L_S row cm dp n0)) judgedNow manyIn κ (nI v)) n (s, t, M S) = κ ((nin (L_S row cm dp n0) (F_R row cm dp n0) r s t S).1, (nin (L_S row cm dp n0) (F_R row cm dp n0) r s t S).2, nI (v + 1))
  | r, 0, s, t, S, h, _ => absurd h (Nat.not_lt_zero _)
  | 0, n + 1, s, t, S, h, hc => by
    rw [lp_s]
    unfold bX7_nightOf_24
    simp only
    rw [if_pos (M_eq0.mpr (cnt_zero.mp hc)), nI_1]
    rfl
  | r + 1, n + 1, s, t, S, h, hc => by
    have h10 := cnt_le S 10
    obtain ⟨g1, g2, g3⟩ := ch_ok (S := S) (q := Int32.toNatClampNeg (su (sd s)) % (r + 1)) (m := 10) (by rw [hc]; exact Nat.mod_lt _ (by omega))
    have hg : ng S (sd s) (r + 1) = ch S (Int32.toNatClampNeg (su (sd s)) % (r + 1)) 10 := rfl
    rw [← hg] at g1 g2 g3
    have ih := night7in (N := N) (dp := dp) (typed := typed) (texts := texts) (rowOf := rowOf) (going := going) (worn := worn) (manyIn := manyIn) (deep := deep) (p1 := p1) (p2 := p2) (came := came) (goes := goes) (wears := wears) (judgedNow := judgedNow) (v := v) (κ := κ) hN hd hca hrow r n (sd s) (t + (if L_S row cm dp n0 (ng S (sd s) (r + 1)) then nI (cnt (fun x => F_R row cm dp n0 (ng S (sd s) (r + 1)) x && (L_S row cm dp n0 x && S x)) 10) else 0).toInt64) (fun g => S g && !(g == ng S (sd s) (r + 1))) (by omega) (by have := cnt_del g1 g2; omega)
    have st : ∀ k24, bX7_nightOf_24 N typed texts rowOf deep p1 p2 (nI n0) coming came goes going wears worn (M (L_S row cm dp n0)) judgedNow manyIn κ (nI v) k24 (s, t, M S) = k24 (sd s, t + (if L_S row cm dp n0 (ng S (sd s) (r + 1)) then nI (cnt (fun x => F_R row cm dp n0 (ng S (sd s) (r + 1)) x && (L_S row cm dp n0 x && S x)) 10) else 0).toInt64, M (fun g => S g && !(g == ng S (sd s) (r + 1)))) := by
      intro k24
      unfold bX7_nightOf_24 bX7_nightOf_99
      simp only
      rw [if_neg (show ¬ M S = 0 from fun e => by have := cnt_zero.mpr (M_eq0.mp e); omega), ones_M _ (by omega), Option.bind_some, hc, if_pos (show ¬ nI (r + 1) = 0 by rw [li0, nI_eq (by omega) (by omega)]; omega), Int32.mul_comm 1103515245 s]
      show (fX7_pick N (M S) (su (sd s) - su (sd s) / nI (r + 1) * nI (r + 1))).bind _ = _
      rw [su_rem (by omega) (by omega), pick7 hN g1 g2 g3, Option.bind_some, isIn_M g1, Option.bind_some, M_bit _ g1, M_andn, M_and, inFront_eq hN hd hca hrow g1, Option.bind_some]
      by_cases c : L_S row cm dp n0 (ng S (sd s) (r + 1)) = true
      · rw [if_pos c, if_neg (by decide), if_pos c, ifc_eq hd c (fun x hx => (Bool.and_eq_true _ _ ▸ hx).2) (Nat.le_refl _), night_lift hd]
        rfl
      · rw [if_neg c, if_pos rfl, if_neg c]
        rfl
    rw [lp_s, st]
    exact ih

/-! 31: night (the guest picked) -/
theorem nth_ex {S : Nat → Bool} {q : Nat} : ∀ {m : Nat}, q < cnt S m → ∃ g, g < m ∧ S g = true ∧ cnt S g = q
  | 0, h => absurd h (Nat.not_lt_zero _)
  | m + 1, h => by
    by_cases c : q < cnt S m
    · obtain ⟨g, a, b⟩ := nth_ex c
      exact ⟨g, by omega, b⟩
    · rw [cnt] at h
      cases w : S m with
      | true => rw [w, if_pos rfl] at h; exact ⟨m, by omega, w, by omega⟩
      | false => rw [w, if_neg (by decide)] at h; omega
theorem guestOf6 {N q g : Nat} {S : Nat → Bool} (hN : 20 < N) (hg : g < 10) (h1 : S g = true) (h2 : cnt S g = q) : fX6_guestOf N (M S) (nI q) = some (nI g) := by
  unfold fX6_guestOf
  have hq := cnt_le S g
  refine lp_eq0 g (fun j => (nI (cnt S j), nI j)) _ (by omega) (fun j hj κ => ?_) (fun κ => ?_)
  · have hc := cnt_le S j
    have hm := cnt_le_of (S := S) (show j + 1 ≤ g by omega)
    rw [cnt] at hm
    unfold bX6_guestOf_4 bX6_guestOf_28
    simp only
    rw [if_neg (by rw [li10, nI_leI (by omega) (by omega)]; omega), has_M (by omega), Option.bind_some, nI_1, nI_1, cnt]
    cases w : S j with
    | false => rfl
    | true =>
      rw [w, if_pos rfl] at hm
      rw [if_pos rfl, if_neg (by decide), if_neg (by rw [nI_eq (by omega) (by omega)]; omega)]
      rfl
  · unfold bX6_guestOf_4
    simp only
    rw [if_neg (by rw [li10, nI_leI (by omega) (by omega)]; omega), has_M hg, Option.bind_some, h1, if_pos rfl, if_neg (by decide), h2, if_pos rfl]
theorem bit_M {S : Nat → Bool} {g : Nat} (hg : g < 10) : (M S >>> (nI g &&& 31)) &&& (1 : Int32) = if S g then 1 else 0 := by
  exact shr_S hg
theorem pick7 {N q g : Nat} {S : Nat → Bool} (hN : 20 < N) (hg : g < 10) (h1 : S g = true) (h2 : cnt S g = q) : fX7_pick N (M S) (nI q) = some (nI g) := by
  unfold fX7_pick
  have hq := cnt_le S g
  refine lp_eq0 g (fun j => (nI (q - cnt S j), nI j)) _ (by omega) (fun j hj κ => ?_) (fun κ => ?_)
  · have hm := cnt_le_of (S := S) (show j + 1 ≤ g by omega)
    rw [cnt] at hm
    unfold bX7_pick_4
    simp only
    rw [if_neg (by rw [li10, nI_leI (by omega) (by omega)]; omega), bit_M (by omega), nI_1, cnt]
    cases w : S j with
    | false =>
      have e0 : nI (q - cnt S j) - (if false = true then (1 : Int32) else 0) = nI (q - cnt S j) := pk_sub (a := q - cnt S j) (b := 0) (Nat.zero_le _)
      rw [e0, if_pos (nI_pos' (by omega))]
      rfl
    | true =>
      rw [w, if_pos rfl] at hm
      have hq10 : q ≤ 10 := by omega
      have e1 : nI (q - cnt S j) - (if true = true then (1 : Int32) else 0) = nI (q - cnt S j - 1) := pk_sub (a := q - cnt S j) (b := 1) (by omega)
      rw [e1, if_pos (nI_pos' (by omega)), Nat.sub_sub]
      rfl
  · unfold bX7_pick_4
    simp only
    rw [if_neg (by rw [li10, nI_leI (by omega) (by omega)]; omega), bit_M hg, h1, if_pos rfl, h2, Nat.sub_self, if_neg (by decide)]
theorem ush16 (x : Int32) : ∃ u, u < 65536 ∧ (x.toUInt32 >>> (((16 : Int32)).toUInt32 &&& Int32.toUInt32 31)).toInt32 = nI u := by
  have h16 : (((16 : Int32)).toUInt32 &&& Int32.toUInt32 31) = (16 : UInt32) := by decide
  rw [h16]
  refine ⟨(x.toUInt32 >>> 16).toNat, ?_, ?_⟩
  · have h := x.toUInt32.toNat_lt
    rw [UInt32.toNat_shiftRight, show (16 : UInt32).toNat % 32 = 16 from rfl, Nat.shiftRight_eq_div_pow]
    omega
  · apply Int32.toBitVec_inj.mp
    show (x.toUInt32 >>> 16).toBitVec = (nI (x.toUInt32 >>> 16).toNat).toBitVec
    apply BitVec.eq_of_toNat_eq
    rw [pk_tn (UInt32.toNat_lt _)]
    rfl
theorem F_self {row cm : Nat → Nat} {dp n g : Nat} (hd : DG n cm) : ∀ {k : Nat}, k ≤ n → F_R row cm dp k g g = false
  | 0, _ => rfl
  | k + 1, hk => by
    rw [F_R, F_self hd (by omega), Bool.false_or]
    by_cases w : g = cm k
    · subst w
      rw [L_S_new hd (show k < n by omega)]
      simp
    · rw [beq_false_of_ne w, Bool.false_and]
theorem night_lift {row cm : Nat → Nat} {dp n g : Nat} {S : Nat → Bool} (hd : DG n cm) : cnt (fun x => F_R row cm dp n g x && (L_S row cm dp n x && S x)) 10 = cnt (fun x => F_R row cm dp n g x && ((S x && !(x == g)) && L_S row cm dp n x)) 10 := by
  refine cnt_congr (fun x _ => ?_)
  by_cases w : x = g
  · subst w; rw [F_self hd (Nat.le_refl _), Bool.false_and, Bool.false_and]
  · rw [beq_false_of_ne w, Bool.not_false, Bool.and_true, Bool.and_comm (S x)]

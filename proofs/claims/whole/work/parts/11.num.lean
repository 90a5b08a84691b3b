/-! ===== numbers, sets as masks, loops ===== -/
theorem lp_eq {σ R : Type} {b : (σ → Option R) → σ → Option R} (n : Nat) (f : Nat → σ) (r : Option R) (hs : ∀ k, k < n → ∀ κ, b κ (f k) = κ (f (k + 1))) (he : ∀ κ, b κ (f n) = r) : ∀ (d k N : Nat), k + d = n → d < N → lp b N (f k) = r
  | 0, k, 0, _, h => absurd h (Nat.lt_irrefl 0)
  | d + 1, k, 0, _, h => absurd h (Nat.not_lt_zero _)
  | 0, k, N + 1, hk, _ => by
    rw [lp_s, show k = n by omega]
    exact he _
  | d + 1, k, N + 1, hk, h => by
    rw [lp_s, hs k (by omega)]
    exact lp_eq n f r hs he d (k + 1) N (by omega) (by omega)
theorem lp_eq0 {σ R : Type} {b : (σ → Option R) → σ → Option R} (n : Nat) (f : Nat → σ) (r : Option R) {N : Nat} (hN : n < N) (hs : ∀ k, k < n → ∀ κ, b κ (f k) = κ (f (k + 1))) (he : ∀ κ, b κ (f n) = r) : lp b N (f 0) = r := lp_eq n f r hs he n 0 N (by omega) hN
/-- with an early end: g k is what the run answers from place k on -/
theorem lp_eqx {σ R : Type} {b : (σ → Option R) → σ → Option R} (n : Nat) (f : Nat → σ) (g : Nat → Option R) (hs : ∀ k, k < n → ((∀ κ, b κ (f k) = κ (f (k + 1))) ∧ g k = g (k + 1)) ∨ (∀ κ, b κ (f k) = g k)) (he : ∀ κ, b κ (f n) = g n) : ∀ (d k N : Nat), k + d = n → d < N → lp b N (f k) = g k
  | 0, k, 0, _, h => absurd h (Nat.lt_irrefl 0)
  | d + 1, k, 0, _, h => absurd h (Nat.not_lt_zero _)
  | 0, k, N + 1, hk, _ => by
    rw [lp_s, show k = n by omega]
    exact he _
  | d + 1, k, N + 1, hk, h => by
    rw [lp_s]
    rcases hs k (by omega) with ⟨h1, h2⟩ | h1
    · rw [h1, h2]
      exact lp_eqx n f g hs he d (k + 1) N (by omega) (by omega)
    · exact h1 _
theorem lp_eqx0 {σ R : Type} {b : (σ → Option R) → σ → Option R} (n : Nat) (f : Nat → σ) (g : Nat → Option R) {N : Nat} (hN : n < N) (hs : ∀ k, k < n → ((∀ κ, b κ (f k) = κ (f (k + 1))) ∧ g k = g (k + 1)) ∨ (∀ κ, b κ (f k) = g k)) (he : ∀ κ, b κ (f n) = g n) : lp b N (f 0) = g 0 := lp_eqx n f g hs he n 0 N (by omega) hN
/-- by a measure -/
theorem lp_run {σ R : Type} {b : (σ → Option R) → σ → Option R} (P : Nat → σ → Prop) (Q : Option R → Prop) (hs : ∀ m s, P m s → (∃ m' s', m' < m ∧ P m' s' ∧ ∀ κ, b κ s = κ s') ∨ (∃ r, Q r ∧ ∀ κ, b κ s = r)) : ∀ (N m : Nat) (s : σ), P m s → m < N → ∃ r, Q r ∧ lp b N s = r
  | 0, m, s, _, h => absurd h (Nat.not_lt_zero _)
  | N + 1, m, s, hp, h => by
    rcases hs m s hp with ⟨m', s', h1, h2, h3⟩ | ⟨r, h1, h2⟩
    · obtain ⟨r, a, e⟩ := lp_run P Q hs N m' s' h2 (by omega)
      exact ⟨r, a, by rw [lp_s, h3]; exact e⟩
    · exact ⟨r, h1, by rw [lp_s]; exact h2 _⟩
/-- a loop by places, with an invariant -/
theorem lp_for {σ R : Type} {b : (σ → Option R) → σ → Option R} (n : Nat) (P : Nat → σ → Prop) (Q : Option R → Prop) (hs : ∀ k s, k < n → P k s → (∃ s', P (k + 1) s' ∧ ∀ κ, b κ s = κ s') ∨ (∃ r, Q r ∧ ∀ κ, b κ s = r)) (he : ∀ s, P n s → ∃ r, Q r ∧ ∀ κ, b κ s = r) {k : Nat} {s : σ} {N : Nat} (hk : k ≤ n) (h0 : P k s) (hN : n < N) : ∃ r, Q r ∧ lp b N s = r := by
  refine lp_run (fun m s => ∃ k, m = n - k ∧ k ≤ n ∧ P k s) Q (fun m s ⟨k, h1, h2, h3⟩ => ?_) N (n - k) s ⟨k, rfl, hk, h0⟩ (by omega)
  by_cases c : k = n
  · subst c
    exact Or.inr (he s h3)
  · rcases hs k s (by omega) h3 with ⟨s', a, e⟩ | h
    · exact Or.inl ⟨n - (k + 1), s', by omega, ⟨k + 1, rfl, by omega, a⟩, e⟩
    · exact Or.inr h
-- numbers
theorem li0 : (0 : Int32) = nI 0 := rfl
theorem li1 : (1 : Int32) = nI 1 := rfl
theorem li2 : (2 : Int32) = nI 2 := rfl
theorem li3 : (3 : Int32) = nI 3 := rfl
theorem li4 : (4 : Int32) = nI 4 := rfl
theorem li5 : (5 : Int32) = nI 5 := rfl
theorem li6 : (6 : Int32) = nI 6 := rfl
theorem li7 : (7 : Int32) = nI 7 := rfl
theorem li8 : (8 : Int32) = nI 8 := rfl
theorem li9 : (9 : Int32) = nI 9 := rfl
theorem li10 : (10 : Int32) = nI 10 := rfl
theorem li16 : (16 : Int32) = nI 16 := rfl
theorem li20 : (20 : Int32) = nI 20 := rfl
theorem li48 : (48 : Int32) = nI 48 := rfl
theorem li60 : (60 : Int32) = nI 60 := rfl
theorem li97 : (97 : Int32) = nI 97 := rfl
theorem li99 : (99 : Int32) = nI 99 := rfl
theorem li255 : (255 : Int32) = nI 255 := rfl
theorem li1023 : (1023 : Int32) = nI 1023 := rfl
theorem li1024 : (1024 : Int32) = nI 1024 := rfl
theorem m1_ne {n : Nat} (h : n < 2 ^ 31) : ¬ nI n = (-1 : Int32) := by
  intro e
  have h1 := congrArg Int32.toInt e
  rw [nI_toInt h] at h1
  have h2 : ((-1 : Int32)).toInt = -1 := by decide
  omega
theorem m1_ne' {n : Nat} (h : n < 2 ^ 31) : ¬ (-1 : Int32) = nI n := fun e => m1_ne h e.symm
theorem m1_lt : ((-1 : Int32) < 0) := by decide
theorem cl0 : Int32.toNatClampNeg (0 : Int32) = 0 := by decide
theorem cl1 : Int32.toNatClampNeg (1 : Int32) = 1 := by decide
theorem cl2 : Int32.toNatClampNeg (2 : Int32) = 2 := by decide
theorem cl3 : Int32.toNatClampNeg (3 : Int32) = 3 := by decide
theorem nI_pd {n : Nat} (h : 0 < n) : nI n - 1 = nI (n - 1) := by
  obtain ⟨m, rfl⟩ : ∃ m, n = m + 1 := ⟨n - 1, by omega⟩
  exact nI_pred m
-- sets
def bm (S : Nat → Bool) : Nat → Nat
  | 0 => 0
  | k + 1 => bm S k ||| (if S k then 2 ^ k else 0)
def cnt (S : Nat → Bool) : Nat → Nat
  | 0 => 0
  | k + 1 => cnt S k + (if S k then 1 else 0)
theorem bm_bit (S : Nat → Bool) : ∀ (n g : Nat), (bm S n).testBit g = (decide (g < n) && S g)
  | 0, g => by simp [bm]
  | n + 1, g => by
    rw [bm, Nat.testBit_or, bm_bit S n g]
    by_cases c : g = n
    · subst c
      by_cases h : S g <;> simp [h, Nat.testBit_two_pow_self]
    · have h2 : (if S n then 2 ^ n else 0 : Nat).testBit g = false := by
        by_cases h : S n
        · simp only [h, if_true]
          exact Nat.testBit_two_pow_of_ne (fun e => c e.symm)
        · simp [h]
      rw [h2, Bool.or_false]
      congr 1
      by_cases d : g < n
      · simp [d, Nat.lt_succ_of_lt d]
      · simp [d, show ¬ g < n + 1 by omega]
theorem bm_lt (S : Nat → Bool) : ∀ n, bm S n < 2 ^ n
  | 0 => by simp [bm]
  | n + 1 => by
    rw [bm]
    refine Nat.or_lt_two_pow (Nat.lt_trans (bm_lt S n) (Nat.pow_lt_pow_right (by decide) (by omega))) ?_
    by_cases h : S n
    · simp only [h, if_true]; exact Nat.pow_lt_pow_right (by decide) (by omega)
    · simp only [h]; exact Nat.two_pow_pos _
theorem bm_congr {S T : Nat → Bool} : ∀ {n : Nat}, (∀ g, g < n → S g = T g) → bm S n = bm T n
  | 0, _ => rfl
  | n + 1, h => by rw [bm, bm, bm_congr (fun g hg => h g (by omega)), h n (by omega)]
theorem cnt_congr {S T : Nat → Bool} : ∀ {n : Nat}, (∀ g, g < n → S g = T g) → cnt S n = cnt T n
  | 0, _ => rfl
  | n + 1, h => by rw [cnt, cnt, cnt_congr (fun g hg => h g (by omega)), h n (by omega)]
theorem cnt_le (S : Nat → Bool) : ∀ n, cnt S n ≤ n
  | 0 => Nat.le_refl 0
  | n + 1 => by rw [cnt]; have := cnt_le S n; split <;> omega
def M (S : Nat → Bool) : Int32 := nI (bm S 10)
theorem M_congr {S T : Nat → Bool} (h : ∀ g, g < 10 → S g = T g) : M S = M T := by unfold M; rw [bm_congr h]
theorem bm10 (S : Nat → Bool) : bm S 10 < 1024 := bm_lt S 10
theorem bm_of {a : Nat} (h : a < 1024) : bm a.testBit 10 = a := by
  apply Nat.eq_of_testBit_eq
  intro g
  rw [bm_bit]
  by_cases c : g < 10
  · simp [c]
  · rw [Nat.testBit_lt_two_pow (Nat.lt_of_lt_of_le h (show 1024 ≤ 2 ^ g from Nat.le_trans (by decide) (Nat.pow_le_pow_right (by decide) (show 10 ≤ g by omega))))]
    simp [c]
theorem bm_and (S T : Nat → Bool) : bm S 10 &&& bm T 10 = bm (fun g => S g && T g) 10 := by
  apply Nat.eq_of_testBit_eq
  intro g
  rw [Nat.testBit_and, bm_bit, bm_bit, bm_bit]
  by_cases c : g < 10 <;> simp [c]
theorem bm_or (S T : Nat → Bool) : bm S 10 ||| bm T 10 = bm (fun g => S g || T g) 10 := by
  apply Nat.eq_of_testBit_eq
  intro g
  rw [Nat.testBit_or, bm_bit, bm_bit, bm_bit]
  by_cases c : g < 10 <;> simp [c]
theorem nI_bv (n : Nat) : (nI n).toBitVec = BitVec.ofNat 32 n := rfl
theorem i32_ext {x y : Int32} (h : x.toBitVec = y.toBitVec) : x = y := Int32.toBitVec_inj.mp h
theorem nI_and (a b : Nat) : nI a &&& nI b = nI (a &&& b) := by
  apply i32_ext
  rw [Int32.toBitVec_and, nI_bv, nI_bv, nI_bv]
  apply BitVec.eq_of_getLsbD_eq
  intro i hi
  simp [BitVec.getLsbD_ofNat, hi]
theorem nI_or (a b : Nat) : nI a ||| nI b = nI (a ||| b) := by
  apply i32_ext
  rw [Int32.toBitVec_or, nI_bv, nI_bv, nI_bv]
  apply BitVec.eq_of_getLsbD_eq
  intro i hi
  simp [BitVec.getLsbD_ofNat, hi]
theorem nI_andn (a b : Nat) : nI a &&& (nI b ^^^ (-1)) = nI (a &&& (a ^^^ b)) := by
  apply i32_ext
  rw [Int32.toBitVec_and, Int32.toBitVec_xor, nI_bv, nI_bv, nI_bv, show ((-1 : Int32)).toBitVec = BitVec.allOnes 32 from by decide]
  apply BitVec.eq_of_getLsbD_eq
  intro i hi
  simp only [BitVec.getLsbD_and, BitVec.getLsbD_xor, BitVec.getLsbD_ofNat, BitVec.getLsbD_allOnes, hi, decide_true, Bool.true_and, Nat.testBit_and, Nat.testBit_xor]
  cases a.testBit i <;> cases b.testBit i <;> rfl
theorem M_and (S T : Nat → Bool) : M S &&& M T = M (fun g => S g && T g) := by unfold M; rw [nI_and, bm_and]
theorem M_or (S T : Nat → Bool) : M S ||| M T = M (fun g => S g || T g) := by unfold M; rw [nI_or, bm_or]
theorem M_andn (S T : Nat → Bool) : M S &&& (M T ^^^ (-1)) = M (fun g => S g && !T g) := by
  unfold M
  rw [nI_andn]
  congr 1
  apply Nat.eq_of_testBit_eq
  intro g
  rw [Nat.testBit_and, Nat.testBit_xor, bm_bit, bm_bit, bm_bit]
  by_cases c : g < 10
  · cases S g <;> cases T g <;> simp [c]
  · simp [c]
theorem M_none : (0 : Int32) = M (fun _ => false) := by decide
theorem M_all : (1023 : Int32) = M (fun _ => true) := by decide
theorem M_bit : ∀ g, g < 10 → ((1 : Int32) <<< (nI g &&& 31)) = M (fun x => x == g) := by decide
theorem M_inj {S T : Nat → Bool} (h : M S = M T) : ∀ g, g < 10 → S g = T g := by
  intro g hg
  have h1 : bm S 10 = bm T 10 := (nI_eq (by have := bm10 S; omega) (by have := bm10 T; omega)).mp h
  have h2 := congrArg (fun a => a.testBit g) h1
  simp only [bm_bit, hg, decide_true, Bool.true_and] at h2
  exact h2
theorem M_eq0 {S : Nat → Bool} : M S = 0 ↔ ∀ g, g < 10 → S g = false := by
  rw [M_none]
  exact ⟨fun h g hg => M_inj h g hg, fun h => M_congr h⟩
theorem has_M {S : Nat → Bool} {g : Nat} (hg : g < 10) : fX6_has (M S) (nI g) = some (if S g then 1 else 0) := by
  unfold fX6_has
  rw [if_neg (nI_pos (by omega)), if_neg (by rw [li10, nI_leI (by omega) (by omega)]; omega), M_bit g hg, M_and]
  by_cases h : S g
  · rw [if_neg, if_pos h]
    rw [M_eq0]
    intro z
    have := z g hg
    simp [h] at this
  · rw [if_pos, if_neg h]
    rw [M_eq0]
    intro x hx
    by_cases e : x = g
    · subst e; simp [h]
    · simp [e]
theorem shr_M : ∀ (a : Fin 1024) (g : Fin 10), ((nI a.val >>> (nI g.val &&& 31)) &&& 1) = if a.val.testBit g.val then 1 else 0 := by decide +kernel
theorem shr_S {S : Nat → Bool} {g : Nat} (hg : g < 10) : ((M S >>> (nI g &&& 31)) &&& 1) = if S g then 1 else 0 := by
  have h := shr_M ⟨bm S 10, bm10 S⟩ ⟨g, hg⟩
  simp only [bm_bit, hg, decide_true, Bool.true_and] at h
  exact h
theorem isIn_M {S : Nat → Bool} {g : Nat} (hg : g < 10) : fX7_isIn (M S) (nI g) = some (if S g then 1 else 0) := by
  unfold fX7_isIn
  rw [shr_S hg]
  by_cases h : S g
  · simp [h]
  · rw [if_neg h, if_neg (by decide)]
theorem bitc : ∀ a : Fin 1024, fJ6_bitCount_0f7a4 (nI a.val) = some (nI (cnt a.val.testBit 10)) := by decide +kernel
theorem bitCount_M (S : Nat → Bool) : fJ6_bitCount_0f7a4 (M S) = some (nI (cnt S 10)) := by
  have h := bitc ⟨bm S 10, bm10 S⟩
  rw [cnt_congr (T := S) (fun g hg => by simp [bm_bit, hg])] at h
  exact h
theorem ones_M (S : Nat → Bool) {N : Nat} (hN : 10 < N) : fX7_ones N (M S) = some (nI (cnt S 10)) := by
  unfold fX7_ones
  rw [li0]
  refine lp_eq0 10 (fun k => (nI (cnt S k), nI k)) _ hN (fun k hk κ => ?_) (fun κ => ?_)
  · unfold bX7_ones_4
    simp only
    rw [if_neg (by rw [li10, nI_leI (by omega) (by omega)]; omega), shr_S hk, nI_1, cnt]
    by_cases h : S k
    · simp only [h, if_true]; rw [nI_1]
    · simp only [h]; rw [show nI (cnt S k) + (if false = true then 1 else 0) = nI (cnt S k) from by simp [Int32.add_zero]]; rfl
  · unfold bX7_ones_4
    simp only
    rw [if_pos (by rw [li10, nI_leI (by omega) (by omega)]; omega)]
theorem within_eq (x a b : Int32) : fX6_within x a b = some (if a ≤ x ∧ x ≤ b then 1 else 0) := by
  unfold fX6_within
  by_cases h1 : x < a
  · rw [if_pos h1, if_neg (fun h => absurd h1 (Int32.not_lt.mpr h.1))]
  · rw [if_neg h1]
    by_cases h2 : b < x
    · rw [if_pos h2, if_neg (fun h => absurd h2 (Int32.not_lt.mpr h.2))]
    · rw [if_neg h2, if_pos ⟨Int32.not_lt.mp h1, Int32.not_lt.mp h2⟩]
theorem in_eq (x a b : Int32) : fX7_in x a b = some (if a ≤ x ∧ x ≤ b then 1 else 0) := within_eq x a b
theorem b01 (p : Prop) [Decidable p] : ((if p then (1 : Int32) else 0) = 0 ∨ (if p then (1 : Int32) else 0) = 1) := by by_cases h : p <;> simp [h]

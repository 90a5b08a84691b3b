/-! ===== told: orders of those who went, by what is told ===== -/
def sg (F : Nat → Nat) : Nat → Nat
  | 0 => 0
  | k + 1 => sg F k + F k
def alw (Q : Nat → Bool) : Nat → Bool
  | 0 => true
  | k + 1 => alw Q k && Q k
theorem alw_iff {Q : Nat → Bool} : ∀ {k : Nat}, alw Q k = true ↔ ∀ i, i < k → Q i = true
  | 0 => ⟨fun _ i hi => absurd hi (Nat.not_lt_zero _), fun _ => rfl⟩
  | k + 1 => by
    rw [alw, Bool.and_eq_true, alw_iff]
    constructor
    · rintro ⟨a, b⟩ i hi
      by_cases c : i = k
      · rw [c]; exact b
      · exact a i (by omega)
    · intro h
      exact ⟨fun i hi => h i (by omega), h k (by omega)⟩
theorem alw_congr {Q R : Nat → Bool} : ∀ {k : Nat}, (∀ i, i < k → Q i = R i) → alw Q k = alw R k
  | 0, _ => rfl
  | k + 1, h => by rw [alw, alw, alw_congr (fun i hi => h i (by omega)), h k (by omega)]
theorem sg_congr {F G : Nat → Nat} : ∀ {k : Nat}, (∀ i, i < k → F i = G i) → sg F k = sg G k
  | 0, _ => rfl
  | k + 1, h => by rw [sg, sg, sg_congr (fun i hi => h i (by omega)), h k (by omega)]
theorem sg_ex {F : Nat → Nat} : ∀ {k : Nat}, sg F k ≠ 0 → ∃ i, i < k ∧ F i ≠ 0
  | 0, h => absurd rfl h
  | k + 1, h => by
    rw [sg] at h
    by_cases c : F k = 0
    · obtain ⟨i, h1, h2⟩ := sg_ex (F := F) (k := k) (by omega)
      exact ⟨i, by omega, h2⟩
    · exact ⟨k, by omega, c⟩
theorem sg_ge {F : Nat → Nat} : ∀ {k i : Nat}, i < k → F i ≤ sg F k
  | 0, i, h => by omega
  | k + 1, i, h => by
    rw [sg]
    by_cases c : i = k
    · rw [c]; omega
    · have := sg_ge (F := F) (k := k) (i := i) (by omega); omega
theorem sg_lin (u : Nat → Nat) (fr : Nat → Bool) (K1 K2 : Nat) : ∀ k, sg (fun g => u g * K1 + (if fr g then K2 else 0)) k = sg u k * K1 + cnt fr k * K2
  | 0 => by simp [sg, cnt]
  | k + 1 => by
    rw [sg, sg_lin u fr K1 K2 k, sg, cnt, Nat.add_mul, Nat.add_mul]
    by_cases c : fr k = true
    · simp only [c, if_true, Nat.one_mul]; omega
    · simp only [c]; simp; omega
theorem sg_cnt (S : Nat → Bool) (F : Nat → Nat) (K : Nat) : ∀ k, (∀ g, g < k → F g ≤ if S g then K else 0) → sg F k ≤ cnt S k * K
  | 0, _ => by simp [sg, cnt]
  | k + 1, h => by
    rw [sg, cnt, Nat.add_mul]
    have h1 := sg_cnt S F K k (fun g hg => h g (by omega))
    have h2 := h k (by omega)
    by_cases c : S k = true
    · simp only [c, if_true, Nat.one_mul] at h2 ⊢; omega
    · simp only [c] at h2 ⊢; simp at h2 ⊢; omega
def rmv (S : Nat → Bool) (g : Nat) : Nat → Bool := fun x => S x && !(x == g)
def okp (pre : Nat → Nat → Bool) (T : Nat → Bool) (g : Nat) : Bool := alw (fun x => !(pre x g) || T x) 10
def Wo (pre : Nat → Nat → Bool) : Nat → (Nat → Bool) → Nat
  | 0, _ => 1
  | f + 1, S => sg (fun g => if S g && okp pre (rmv S g) g then Wo pre f (rmv S g) else 0) 10
theorem okp_iff {pre : Nat → Nat → Bool} {T : Nat → Bool} {g : Nat} : okp pre T g = true ↔ ∀ x, x < 10 → pre x g = true → T x = true := by
  unfold okp
  rw [alw_iff]
  constructor
  · intro h x hx hp
    have := h x hx
    rw [hp] at this; simpa using this
  · intro h x hx
    cases q : pre x g with
    | false => rfl
    | true => simp [h x hx q]
theorem okp_congr {pre : Nat → Nat → Bool} {S T : Nat → Bool} {g : Nat} (h : ∀ x, x < 10 → S x = T x) : okp pre S g = okp pre T g := alw_congr (fun x hx => by rw [h x hx])
theorem rmv_congr {S T : Nat → Bool} {g : Nat} (h : ∀ x, x < 10 → S x = T x) : ∀ x, x < 10 → rmv S g x = rmv T g x := fun x hx => by unfold rmv; rw [h x hx]
theorem Wo_congr {pre : Nat → Nat → Bool} : ∀ {f : Nat} {S T : Nat → Bool}, (∀ x, x < 10 → S x = T x) → Wo pre f S = Wo pre f T
  | 0, _, _, _ => rfl
  | f + 1, S, T, h => by
    rw [Wo, Wo]
    refine sg_congr (fun g hg => ?_)
    rw [h g hg, okp_congr (rmv_congr h), Wo_congr (rmv_congr h)]
theorem cnt_rmv {S : Nat → Bool} {g : Nat} (hg : g < 10) (h : S g = true) : cnt (rmv S g) 10 + 1 = cnt S 10 := by
  have := cnt_ins (S := rmv S g) (x := g) (m := 10) hg (by unfold rmv; simp)
  rw [← this]
  refine cnt_congr (fun x _ => ?_)
  show ((S x && !(x == g)) || (x == g)) = S x
  by_cases c : x = g
  · rw [c, h]; simp
  · rw [beq_false_of_ne c, Bool.not_false, Bool.and_true, Bool.or_false]
-- sets that hold what is ahead
def dcl (pre : Nat → Nat → Bool) (S : Nat → Bool) : Prop := ∀ x g, x < 10 → g < 10 → pre x g = true → S g = true → S x = true
theorem Wo_dcl {pre : Nat → Nat → Bool} : ∀ {f : Nat} {S : Nat → Bool}, cnt S 10 = f → Wo pre f S ≠ 0 → dcl pre S
  | 0, S, h, _ => by
    intro x g _ hg _ hs
    have := cnt_rmv hg hs
    omega
  | f + 1, S, h, hw => by
    rw [Wo] at hw
    obtain ⟨l, l1, l2⟩ := sg_ex hw
    by_cases c : (S l && okp pre (rmv S l) l) = true
    · simp only [c, if_true] at l2
      rw [Bool.and_eq_true] at c
      have hc := cnt_rmv l1 c.1
      have ih := Wo_dcl (pre := pre) (S := rmv S l) (by omega) l2
      intro x g hx hg hp hs
      by_cases d : g = l
      · subst d
        have := okp_iff.mp c.2 x hx hp
        unfold rmv at this
        rw [Bool.and_eq_true] at this
        exact this.1
      · have := ih x g hx hg hp (by unfold rmv; simp [hs, d])
        unfold rmv at this
        rw [Bool.and_eq_true] at this
        exact this.1
    · simp only [c] at l2
      exact absurd rfl l2
theorem Wo_irr {pre : Nat → Nat → Bool} : ∀ {f : Nat} {S : Nat → Bool}, cnt S 10 = f → Wo pre f S ≠ 0 → ∀ g, g < 10 → S g = true → pre g g = false
  | 0, S, h, _, g, hg, hs => by
    have := cnt_rmv hg hs
    omega
  | f + 1, S, h, hw, g, hg, hs => by
    rw [Wo] at hw
    obtain ⟨l, l1, l2⟩ := sg_ex hw
    by_cases c : (S l && okp pre (rmv S l) l) = true
    · simp only [c, if_true] at l2
      rw [Bool.and_eq_true] at c
      have hc := cnt_rmv l1 c.1
      by_cases d : g = l
      · subst d
        cases q : pre g g with
        | false => rfl
        | true =>
          have := okp_iff.mp c.2 g hg q
          unfold rmv at this
          simp at this
      · exact Wo_irr (by omega) l2 g hg (by unfold rmv; simp [hs, d])
    · simp only [c] at l2
      exact absurd rfl l2
def fct : Nat → Nat
  | 0 => 1
  | k + 1 => (k + 1) * fct k
theorem Wo_le {pre : Nat → Nat → Bool} : ∀ {f : Nat} {S : Nat → Bool}, cnt S 10 = f → Wo pre f S ≤ fct f
  | 0, _, _ => Nat.le_refl _
  | f + 1, S, h => by
    rw [Wo, fct, ← h]
    refine sg_cnt S _ (fct f) 10 (fun g hg => ?_)
    cases q : S g with
    | false => simp
    | true =>
      have hc := cnt_rmv hg q
      have ih := Wo_le (pre := pre) (S := rmv S g) (f := f) (by omega)
      simp only [Bool.true_and, if_true]
      split
      · exact ih
      · exact Nat.zero_le _
theorem fct_mono : ∀ {a b : Nat}, a ≤ b → fct a ≤ fct b
  | a, 0, h => by rw [show a = 0 by omega]; exact Nat.le_refl _
  | a, b + 1, h => by
    by_cases c : a = b + 1
    · rw [c]; exact Nat.le_refl _
    · have h1 := fct_mono (show a ≤ b by omega)
      rw [fct, Nat.add_mul, Nat.one_mul]
      omega
theorem Wo_10 {pre : Nat → Nat → Bool} {S : Nat → Bool} : Wo pre (cnt S 10) S ≤ 3628800 := Nat.le_trans (Wo_le rfl) (Nat.le_trans (fct_mono (cnt_le S 10)) (by decide))
-- edges, and what follows from them
section ED
variable (ea eb : Nat → Nat)
def eP : Nat → Nat → Nat → Bool
  | 0, _, _ => false
  | k + 1, x, g => eP k x g || ((x == ea k) && (g == eb k))
def tP : Nat → Nat → Nat → Bool
  | 0, _, _ => false
  | k + 1, x, g => tP k x g || (((x == ea k) || tP k x (ea k)) && ((g == eb k) || tP k (eb k) g))
def nmd : Nat → Nat → Bool
  | 0, _ => false
  | k + 1, x => nmd k x || ((x == ea k) || (x == eb k))
end ED
section EE
variable {ea eb : Nat → Nat}
theorem eP_iff : ∀ {k x g : Nat}, eP ea eb k x g = true ↔ ∃ i, i < k ∧ x = ea i ∧ g = eb i
  | 0, x, g => by simp [eP]
  | k + 1, x, g => by
    rw [eP, Bool.or_eq_true, eP_iff, Bool.and_eq_true, beq_iff_eq, beq_iff_eq]
    constructor
    · rintro (⟨i, h1, h2⟩ | h)
      · exact ⟨i, by omega, h2⟩
      · exact ⟨k, by omega, h⟩
    · rintro ⟨i, h1, h2⟩
      by_cases c : i = k
      · subst c; exact Or.inr h2
      · exact Or.inl ⟨i, by omega, h2⟩
theorem nmd_iff : ∀ {k x : Nat}, nmd ea eb k x = true ↔ ∃ i, i < k ∧ (x = ea i ∨ x = eb i)
  | 0, x => by simp [nmd]
  | k + 1, x => by
    rw [nmd, Bool.or_eq_true, nmd_iff, Bool.or_eq_true, beq_iff_eq, beq_iff_eq]
    constructor
    · rintro (⟨i, h1, h2⟩ | h)
      · exact ⟨i, by omega, h2⟩
      · exact ⟨k, by omega, h⟩
    · rintro ⟨i, h1, h2⟩
      by_cases c : i = k
      · subst c; exact Or.inr h2
      · exact Or.inl ⟨i, by omega, h2⟩
theorem tP_s {k x g : Nat} : tP ea eb (k + 1) x g = true ↔ tP ea eb k x g = true ∨ ((x = ea k ∨ tP ea eb k x (ea k) = true) ∧ (g = eb k ∨ tP ea eb k (eb k) g = true)) := by
  rw [tP, Bool.or_eq_true, Bool.and_eq_true, Bool.or_eq_true, Bool.or_eq_true, beq_iff_eq, beq_iff_eq]
theorem tP_trans : ∀ {k x y z : Nat}, tP ea eb k x y = true → tP ea eb k y z = true → tP ea eb k x z = true
  | 0, x, y, z, h, _ => by cases h
  | k + 1, x, y, z, h1, h2 => by
    rw [tP_s] at h1 h2 ⊢
    rcases h1 with h1 | ⟨h1, h3⟩
    · rcases h2 with h2 | ⟨h2, h4⟩
      · exact Or.inl (tP_trans h1 h2)
      · refine Or.inr ⟨Or.inr ?_, h4⟩
        rcases h2 with h2 | h2
        · rw [← h2]; exact h1
        · exact tP_trans h1 h2
    · rcases h2 with h2 | ⟨h2, h4⟩
      · refine Or.inr ⟨h1, Or.inr ?_⟩
        rcases h3 with h3 | h3
        · rw [← h3]; exact h2
        · exact tP_trans h3 h2
      · exact Or.inr ⟨h1, h4⟩
theorem eP_tP : ∀ {k x g : Nat}, eP ea eb k x g = true → tP ea eb k x g = true
  | 0, x, g, h => by cases h
  | k + 1, x, g, h => by
    rw [eP, Bool.or_eq_true, Bool.and_eq_true, beq_iff_eq, beq_iff_eq] at h
    rw [tP_s]
    rcases h with h | h
    · exact Or.inl (eP_tP h)
    · exact Or.inr ⟨Or.inl h.1, Or.inl h.2⟩
theorem tP_last : ∀ {k x g : Nat}, tP ea eb k x g = true → ∃ i, i < k ∧ g = eb i
  | 0, x, g, h => by cases h
  | k + 1, x, g, h => by
    rw [tP_s] at h
    rcases h with h | ⟨-, h | h⟩
    · obtain ⟨i, h1, h2⟩ := tP_last h; exact ⟨i, by omega, h2⟩
    · exact ⟨k, by omega, h⟩
    · obtain ⟨i, h1, h2⟩ := tP_last h; exact ⟨i, by omega, h2⟩
theorem eP_up {k x g : Nat} (h : eP ea eb k x g = true) : eP ea eb (k + 1) x g = true := by rw [eP, h]; rfl
theorem tP_dcl {S : Nat → Bool} : ∀ {k : Nat}, (∀ i, i < k → ea i < 10 ∧ eb i < 10) → dcl (eP ea eb k) S → ∀ x g, tP ea eb k x g = true → S g = true → S x = true
  | 0, _, _, x, g, h, _ => by cases h
  | k + 1, hb, hd, x, g, h, hs => by
    have hd' : dcl (eP ea eb k) S := fun x g hx hg hp => hd x g hx hg (eP_up hp)
    have ih := tP_dcl (k := k) (fun i hi => hb i (by omega)) hd'
    rw [tP_s] at h
    rcases h with h | ⟨h1, h2⟩
    · exact ih x g h hs
    · have sb : S (eb k) = true := by
        rcases h2 with h2 | h2
        · rw [← h2]; exact hs
        · exact ih _ _ h2 hs
      have sa : S (ea k) = true := hd (ea k) (eb k) (hb k (by omega)).1 (hb k (by omega)).2 (by rw [eP]; simp) sb
      rcases h1 with h1 | h1
      · rw [h1]; exact sa
      · exact ih _ _ h1 sa
theorem tP_pre {S : Nat → Bool} {g : Nat} : ∀ {k : Nat}, (∀ i, i < k → ea i < 10 ∧ eb i < 10) → dcl (eP ea eb k) S → (∀ x, x < 10 → eP ea eb k x g = true → S x = true) → ∀ x, tP ea eb k x g = true → S x = true
  | 0, _, _, _, x, h => by cases h
  | k + 1, hb, hd, hp, x, h => by
    have hb' := fun i (hi : i < k) => hb i (by omega)
    have hd' : dcl (eP ea eb k) S := fun x g hx hg hp => hd x g hx hg (eP_up hp)
    have ih := tP_pre (g := g) (k := k) hb' hd' (fun x hx h => hp x hx (eP_up h))
    have dn := tP_dcl hb' hd'
    rw [tP_s] at h
    rcases h with h | ⟨h1, h2⟩
    · exact ih x h
    · have sa : S (ea k) = true := by
        rcases h2 with h2 | h2
        · exact hp (ea k) (hb k (by omega)).1 (by rw [eP, h2]; simp)
        · exact hd (ea k) (eb k) (hb k (by omega)).1 (hb k (by omega)).2 (by rw [eP]; simp) (ih _ h2)
      rcases h1 with h1 | h1
      · rw [h1]; exact sa
      · exact dn _ _ h1 sa
/-- by edges or by all that follows: as many orders -/
theorem Wo_et {h : Nat} (hb : ∀ i, i < h → ea i < 10 ∧ eb i < 10) : ∀ {f : Nat} {S : Nat → Bool}, cnt S 10 = f → Wo (eP ea eb h) f S = Wo (tP ea eb h) f S
  | 0, _, _ => rfl
  | f + 1, S, hc => by
    rw [Wo, Wo]
    refine sg_congr (fun g hg => ?_)
    cases q : S g with
    | false => rfl
    | true =>
      have hr := cnt_rmv hg q
      have ih := Wo_et hb (f := f) (S := rmv S g) (by omega)
      simp only [Bool.true_and]
      rw [ih]
      by_cases z : Wo (tP ea eb h) f (rmv S g) = 0
      · rw [z]; simp
      · have hd : dcl (eP ea eb h) (rmv S g) := Wo_dcl (f := f) (by omega) (by rw [ih]; exact z)
        have e : okp (eP ea eb h) (rmv S g) g = okp (tP ea eb h) (rmv S g) g := by
          rw [Bool.eq_iff_iff, okp_iff, okp_iff]
          constructor
          · intro hp x _ hx
            exact tP_pre hb hd hp x hx
          · intro hp x hx he
            exact hp x hx (eP_tP he)
        rw [e]
end EE

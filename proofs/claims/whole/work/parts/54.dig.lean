/-! ===== digest: what both sides count up ===== -/
theorem lp_forF {σ R : Type} {b : (σ → Option R) → σ → Option R} (n : Nat) (P : Nat → σ → Prop) (Q : Option R → Prop) (hs : ∀ k s, k < n → P k s → ∃ s', (∀ κ, b κ s = κ s') ∧ P (k + 1) s') (he : ∀ s, P n s → ∃ r, (∀ κ, b κ s = r) ∧ Q r) {k : Nat} {s : σ} {N : Nat} (hk : k ≤ n) (h0 : P k s) (hN : n < N) : ∃ r, Q r ∧ lp b N s = r :=
  lp_for n P Q (fun k s hk hp => Or.inl (by obtain ⟨s', a, b⟩ := hs k s hk hp; exact ⟨s', b, a⟩)) (fun s hp => by obtain ⟨r, a, b⟩ := he s hp; exact ⟨r, b, a⟩) hk h0 hN
theorem lp_out {σ R : Type} {b : (σ → Option R) → σ → Option R} {g : R → Prop} (n : Nat) (P : Nat → σ → Prop) (hs : ∀ k s, k < n → P k s → ∃ s', (∀ κ, b κ s = κ s') ∧ P (k + 1) s') (he : ∀ s, P n s → ∀ κ, ∃ S, b κ s = some S ∧ g S) {s : σ} {N : Nat} (h0 : P 0 s) (hN : n < N) : ∃ S, lp b N s = some S ∧ g S := by
  suffices z : ∀ (d k N : Nat) (s : σ), k + d = n → P k s → d < N → ∃ S, lp b N s = some S ∧ g S from z n 0 N s (by omega) h0 hN
  intro d
  induction d with
  | zero =>
    intro k N s hk hp hN
    obtain ⟨N', rfl⟩ : ∃ N', N = N' + 1 := ⟨N - 1, by omega⟩
    rw [lp_s]
    exact he s (by rw [← hk]; exact hp) _
  | succ d ih =>
    intro k N s hk hp hN
    obtain ⟨N', rfl⟩ : ∃ N', N = N' + 1 := ⟨N - 1, by omega⟩
    rw [lp_s]
    obtain ⟨s', a, b⟩ := hs k s (by omega) hp
    rw [a]
    exact ih (k + 1) N' s' (by omega) b (by omega)
theorem bO {α β : Type} {x : Option α} {f : α → Option β} {P : α → Prop} {g : β → Prop} (hx : ∃ R, x = some R ∧ P R) (h : ∀ R, P R → ∃ S, f R = some S ∧ g S) : ∃ S, x.bind f = some S ∧ g S := by
  obtain ⟨R, e, hp⟩ := hx
  rw [e, Option.bind_some]
  exact h R hp
theorem bS {α σ ρ : Type} {x : Option α} {F : α → (σ → Option ρ) → Option ρ} {P : α → Prop} {g : σ → Prop} (hx : ∃ R, x = some R ∧ P R) (h : ∀ R, P R → ∃ s', (∀ κ, F R κ = κ s') ∧ g s') : ∃ s', (∀ κ, x.bind (fun u => F u κ) = κ s') ∧ g s' := by
  obtain ⟨R, e, hp⟩ := hx
  obtain ⟨s', a, b⟩ := h R hp
  exact ⟨s', fun κ => by rw [e, Option.bind_some]; exact a κ, b⟩
theorem of_bind {α β : Type} {x : Option α} {f : α → Option β} {R : β} (h : x.bind f = some R) : ∃ u, x = some u ∧ f u = some R := by
  cases x with
  | none => cases h
  | some u => exact ⟨u, rfl, h⟩
def fo (s : Nat → Int64 → Int64) (h : Int64) : Nat → Int64
  | 0 => h
  | k + 1 => s k (fo s h k)
def mI : Nat → Int32
  | 0 => -1
  | k + 1 => nI k
theorem mI_1 (k : Nat) : mI k + 1 = mI (k + 1) := by
  cases k with
  | zero => decide
  | succ k => exact nI_1 k
theorem mI_lt {k m : Nat} (hk : k < 2 ^ 31) (hm : m < 2 ^ 31) : nI m < mI k ↔ m + 1 < k := by
  cases k with
  | zero =>
    constructor
    · intro h
      exfalso
      rw [Int32.lt_iff_toInt_lt, nI_toInt hm, show (mI 0).toInt = -1 from by decide] at h
      omega
    · intro h; omega
  | succ k =>
    show nI m < nI k ↔ _
    rw [nI_ltI hm (by omega)]; omega
theorem mI_le {k m : Nat} (hk : k < 2 ^ 31) (hm : m < 2 ^ 31) : nI m ≤ mI k ↔ m + 1 ≤ k := by
  cases k with
  | zero =>
    constructor
    · intro h
      exfalso
      rw [Int32.le_iff_toInt_le, nI_toInt hm, show (mI 0).toInt = -1 from by decide] at h
      omega
    · intro h; omega
  | succ k =>
    show nI m ≤ nI k ↔ _
    rw [nI_leI hm (by omega)]; omega
theorem mI_in {k m : Nat} (hk : k ≤ m + 1) (hm : m < 2 ^ 31) : mI k = -1 ∨ (0 ≤ mI k ∧ mI k ≤ nI m) := by
  cases k with
  | zero => exact Or.inl rfl
  | succ k => exact Or.inr (in_nI hm (by omega))
section DG
variable (n : Nat → Nat) (β tr : Nat → Nat → Nat) (st : Nat → Nat) (h : Nat) (ea eb : Nat → Nat) (fd : Int32) (wV : Int32 → Int32)
def dS1 (k : Nat) (x : Int64) : Int64 := 31 * x + (aCount n β (tr 0) (st 0) (st 1) (nI h) fd (nI k)).toInt64
def dS2 (k : Nat) (x : Int64) : Int64 := 31 * x + (aFault n β (nI k)).toInt64
def dS4 (k : Nat) (x : Int64) : Int64 := 31 * (31 * (31 * (31 * x + (aLift n β (tr 0) (st 0) (nI k)).toInt64) + (aRows n β (nI k)).toInt64) + (aOut n β tr st (nI k)).toInt64) + (wV (nI k)).toInt64
def dS6 (k : Nat) (x : Int64) : Int64 := 31 * x + (aProof n β (mI k)).toInt64
def dS8 (k : Nat) (x : Int64) : Int64 := 31 * x + (aLeast n β 2 (mI k)).toInt64
def dS9 (k : Nat) (x : Int64) : Int64 := 31 * x + (aRule n β (nI k) 2).toInt64
def dD1 : Int64 := fo (dS1 n β tr st h fd) 17 8
def dD2 : Int64 := fo (dS2 n β) (dD1 n β tr st h fd) 3
def dD3 : Int64 := 31 * dD2 n β tr st h fd + (J_G (tr 0) (lt β 0) (st 0) (tC n β)).toInt64
def dD4 : Int64 := fo (dS4 n β tr st wV) (dD3 n β tr st h fd) 10
def dD5 : Int64 := 31 * (31 * dD4 n β tr st h fd wV + (aLift n β (tr 0) (st 0) (-1)).toInt64) + (aRows n β (-1)).toInt64
def dD6 : Int64 := fo (dS6 n β) (dD5 n β tr st h fd wV) 4
def dD7 : Int64 := 31 * (31 * (31 * dD6 n β tr st h fd wV + (aOut n β tr st (-1)).toInt64) + (wV (-1)).toInt64) + (nI (tW n β - (rk (lt β 2) (tW n β) (tW n β)).1)).toInt64
def dD8 : Int64 := fo (dS8 n β) (dD7 n β tr st h fd wV) 3
def dD9 : Int64 := fo (dS9 n β) (dD8 n β tr st h fd wV) 4
def dD10 : Int64 := 31 * (31 * dD9 n β tr st h fd wV + (aBest n β 2).toInt64) + (aGap n β 2).toInt64
abbrev hpA (p q : Int32) : Int64 := aHeap (tcs n β (tr 0) (st 0)) (cnt (LSs (tr 0) (st 0) n β) 10) p q
def dD11 : Int64 := 31 * (31 * (31 * dD10 n β tr st h fd wV + aMean n β (tr 0) (st 0) 5 0) + aMean n β (tr 0) (st 0) 5 1) + hpA n β tr st (-1) 0
def dD12 : Int64 := 31 * (31 * (31 * dD11 n β tr st h fd wV + hpA n β tr st (-1) 1) + hpA n β tr st 0 0) + hpA n β tr st 0 1
def dD13 : Int64 := 31 * (31 * (31 * dD12 n β tr st h fd wV + aAlike n β (tr 1) 0) + aAlike n β (tr 1) 1) + aFits n β h ea eb 1
def dD14 : Int64 := 31 * (31 * dD13 n β tr st h ea eb fd wV + (aFirsts n β h ea eb 1).toInt64) + aNight n β (tr 0) (st 0) 7 3
end DG
section OF
variable {N : Nat} {n : Nat → Nat} {β tr : Nat → Nat → Nat} {st : Nat → Nat} {typed texts coming going worn rowOf looks minutes manyIn goer lfo whens fronts laidTo : Nat → Int32} {comes came goes wears deep room look lift laid judgedNow goers : Int32}
theorem rowsOf7 (hN : 20 < N) (hT : TM n β typed texts) (p : Int32) (hp : p = -1 ∨ (0 ≤ p ∧ p ≤ 9)) : ∃ R, fX7_rowsOf N typed texts comes coming came goes going wears worn whens fronts p = some R ∧ R.1 = aRows n β p := by
  obtain ⟨R, e, a⟩ := rows7 (N := N) (comes := comes) (coming := coming) (came := came) (goes := goes) (going := going) (wears := wears) (worn := worn) (whens := whens) (fronts := fronts) hN hT p
  unfold fX7_rows at e
  rw [in_eq, Option.bind_some, if_pos ((in19 p).mpr hp), if_neg i10] at e
  obtain ⟨u, e1, e2⟩ := of_bind e
  have := Option.some.inj e2
  subst this
  exact ⟨u, e1, a⟩
theorem swapsNow7 (hN : 20 < N) (hT : TM n β typed texts) : ∃ R, fX7_swapsNow N typed texts comes coming came goes going wears worn = some R ∧ R.1 = nI (tW n β - (rk (lt β 2) (tW n β) (tW n β)).1) := by
  obtain ⟨R, e, a⟩ := swaps7 (N := N) (comes := comes) (coming := coming) (came := came) (goes := goes) (going := going) (wears := wears) (worn := worn) hN hT
  unfold fX7_swaps at e
  obtain ⟨u, e1, e2⟩ := of_bind e
  have := Option.some.inj e2
  subst this
  exact ⟨u, e1, a⟩
theorem bestOf7 (hN : 20 < N) (hT : TM n β typed texts) : ∃ R, fX7_bestOf N typed texts comes coming came goes going wears worn manyIn whens fronts laidTo 2 = some R ∧ R.1 = aBest n β 2 := by
  obtain ⟨R, e, a⟩ := best7 (N := N) (comes := comes) (coming := coming) (came := came) (goes := goes) (going := going) (wears := wears) (worn := worn) (whens := whens) (manyIn := manyIn) (fronts := fronts) (laid := laidTo) hN hT 2
  unfold fX7_best at e
  rw [in_eq, Option.bind_some, if_neg (by decide)] at e
  obtain ⟨u, e1, e2⟩ := of_bind e
  have := Option.some.inj e2
  subst this
  exact ⟨u, e1, a⟩
theorem meanOf7 (hN : 20 < N) (hM : ModT n β tr st typed texts rowOf looks minutes deep room look lift) (q : Int32) (hq : 0 ≤ q ∧ q ≤ 1) : ∃ R, fX7_meanOf N typed texts comes coming came goes going wears worn rowOf deep laid judgedNow manyIn goers goer lfo 5 q = some R ∧ R.1 = aMean n β (tr 0) (st 0) 5 q := by
  obtain ⟨R, e, a⟩ := mean7 (N := N) (comes := comes) (coming := coming) (came := came) (goes := goes) (going := going) (wears := wears) (worn := worn) (laid := laid) (judgedNow := judgedNow) (manyIn := manyIn) (goers := goers) (goer := goer) (lfo := lfo) hN hM 5 q
  unfold fX7_mean at e
  rw [in_eq, Option.bind_some, if_neg (by decide), in_eq, Option.bind_some, if_pos hq, if_neg i10] at e
  obtain ⟨u, e1, e2⟩ := of_bind e
  have := Option.some.inj e2
  subst this
  exact ⟨u, e1, a⟩
theorem alikeOf7 {lk : Nat → Nat} (hN : 20 < N) (hT : TM n β typed texts) (ha : ∀ g, g < 10 → looks g = nI (lk g) ∧ lk g < 4) (q : Int32) (hq : 0 ≤ q ∧ q ≤ 1) : ∃ R, fX7_alikeOf N typed texts comes coming came goes going wears worn looks q = some R ∧ R.1 = aAlike n β lk q := by
  obtain ⟨R, e, a⟩ := alike7 (N := N) (comes := comes) (coming := coming) (came := came) (goes := goes) (going := going) (wears := wears) (worn := worn) hN hT ha q
  unfold fX7_alike at e
  rw [in_eq, Option.bind_some, if_pos hq, if_neg i10] at e
  obtain ⟨u, e1, e2⟩ := of_bind e
  have := Option.some.inj e2
  subst this
  exact ⟨u, e1, a⟩
theorem nightOf7 (hN : 60 < N) (hM : ModT n β tr st typed texts rowOf looks minutes deep room look lift) : ∃ R, fX7_nightOf N typed texts comes coming came goes going wears worn rowOf deep laid judgedNow manyIn 7 3 = some R ∧ R.1 = aNight n β (tr 0) (st 0) 7 3 := by
  obtain ⟨R, e, a⟩ := night7 (N := N) (comes := comes) (coming := coming) (came := came) (goes := goes) (going := going) (wears := wears) (worn := worn) (laid := laid) (judgedNow := judgedNow) (manyIn := manyIn) hN hM 7 3
  unfold fX7_night at e
  rw [in_eq, Option.bind_some, if_neg (by decide)] at e
  obtain ⟨u, e1, e2⟩ := of_bind e
  have := Option.some.inj e2
  subst this
  exact ⟨u, e1, a⟩
end OF

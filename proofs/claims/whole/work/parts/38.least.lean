/-! ===== least: layings, their cost, their codes; one search step ===== -/
def lcx (ga x : Nat → Nat) (i : Nat) : Nat := cnt (fun j => decide (j < i) && (decide (ga j < ga i) && (x j == x i))) 10
def csx (ga x : Nat → Nat) : Nat → Nat
  | 0 => 0
  | i + 1 => csx ga x i + lcx ga x i
def cdx (k : Nat) (x : Nat → Nat) : Nat → Nat
  | 0 => 0
  | i + 1 => cdx k x i * k + x i
def dgt (k m c i : Nat) : Nat := c / k ^ (m - 1 - i) % k
theorem lcx_le (ga x : Nat → Nat) (i : Nat) : lcx ga x i ≤ 10 := cnt_le _ _
theorem csx_le (ga x : Nat → Nat) : ∀ i, csx ga x i ≤ 10 * i
  | 0 => Nat.le_refl _
  | i + 1 => by rw [csx]; have := csx_le ga x i; have := lcx_le ga x i; omega
theorem lcx_congr {ga x y : Nat → Nat} {i : Nat} (h : ∀ j, j ≤ i → x j = y j) : lcx ga x i = lcx ga y i := by
  refine cnt_congr (fun j _ => ?_)
  by_cases c : j < i
  · rw [h j (by omega), h i (by omega)]
  · simp [c]
theorem csx_congr {ga x y : Nat → Nat} : ∀ {n : Nat}, (∀ j, j < n → x j = y j) → csx ga x n = csx ga y n
  | 0, _ => rfl
  | n + 1, h => by rw [csx, csx, csx_congr (fun j hj => h j (by omega)), lcx_congr (fun j hj => h j (by omega))]
theorem csx_mono {ga x : Nat → Nat} {p : Nat} : ∀ {n : Nat}, p ≤ n → csx ga x p ≤ csx ga x n
  | 0, h => by rw [show p = 0 by omega]; exact Nat.le_refl _
  | n + 1, h => by
    by_cases c : p = n + 1
    · rw [c]; exact Nat.le_refl _
    · rw [csx]; have := csx_mono (ga := ga) (x := x) (show p ≤ n by omega); omega
theorem cdx_congr {k : Nat} {x y : Nat → Nat} : ∀ {n : Nat}, (∀ j, j < n → x j = y j) → cdx k x n = cdx k y n
  | 0, _ => rfl
  | n + 1, h => by rw [cdx, cdx, cdx_congr (fun j hj => h j (by omega)), h n (by omega)]
theorem cdx_lt {k p : Nat} {x y : Nat → Nat} : ∀ {n : Nat}, p < n → (∀ j, j < p → x j = y j) → x p < y p → (∀ j, j < n → x j < k) → cdx k x n < cdx k y n
  | 0, h, _, _, _ => by omega
  | n + 1, h, h1, h2, h3 => by
    rw [cdx, cdx]
    by_cases c : p = n
    · subst c; rw [cdx_congr h1]; omega
    · have h4 := cdx_lt (n := n) (by omega) h1 h2 (fun j hj => h3 j (by omega))
      have h5 := h3 n (by omega)
      have h6 : (cdx k x n + 1) * k ≤ cdx k y n * k := Nat.mul_le_mul_right k h4
      rw [Nat.add_mul, Nat.one_mul] at h6
      omega
theorem cdx_pow {k : Nat} {x : Nat → Nat} : ∀ {n : Nat}, (∀ j, j < n → x j < k) → cdx k x n < k ^ n
  | 0, _ => by simp [cdx]
  | n + 1, h => by
    have h1 := cdx_pow (n := n) (fun j hj => h j (by omega))
    have h2 := h n (by omega)
    have h3 : (cdx k x n + 1) * k ≤ k ^ n * k := Nat.mul_le_mul_right k h1
    rw [cdx, Nat.pow_succ]
    rw [Nat.add_mul, Nat.one_mul] at h3
    omega
theorem cdx_div {k : Nat} {x : Nat → Nat} : ∀ {d n : Nat}, (∀ j, j < n + d → x j < k) → cdx k x (n + d) / k ^ d = cdx k x n
  | 0, n, _ => by simp
  | d + 1, n, h => by
    have h2 := h (n + d) (by omega)
    have hk : 0 < k := by omega
    rw [show n + (d + 1) = (n + d) + 1 from rfl, cdx, Nat.pow_succ, Nat.mul_comm (k ^ d) k, ← Nat.div_div_eq_div_mul, Nat.mul_comm, Nat.mul_add_div hk, Nat.div_eq_of_lt h2, Nat.add_zero]
    exact cdx_div (fun j hj => h j (by omega))
theorem dgt_cdx {k m i : Nat} {x : Nat → Nat} (hi : i < m) (h : ∀ j, j < m → x j < k) : dgt k m (cdx k x m) i = x i := by
  unfold dgt
  have h1 := cdx_div (k := k) (x := x) (d := m - 1 - i) (n := i + 1) (fun j hj => h j (by omega))
  rw [show i + 1 + (m - 1 - i) = m by omega] at h1
  rw [h1, cdx, Nat.mul_comm, Nat.mul_add_mod, Nat.mod_eq_of_lt (h i hi)]
theorem dgt_lt {k m c i : Nat} (hk : 0 < k) : dgt k m c i < k := Nat.mod_lt _ hk
theorem cdx_dgt {k m c : Nat} (hc : c < k ^ m) : ∀ {j : Nat}, j ≤ m → cdx k (dgt k m c) j = c / k ^ (m - j)
  | 0, _ => by rw [cdx, Nat.sub_zero, Nat.div_eq_of_lt hc]
  | j + 1, h => by
    rw [cdx, cdx_dgt hc (by omega)]
    unfold dgt
    rw [show m - j = (m - 1 - j) + 1 by omega, Nat.pow_succ, ← Nat.div_div_eq_div_mul, show m - (j + 1) = m - 1 - j by omega, Nat.mul_comm]
    exact Nat.div_add_mod _ _
-- two rows changed about
def sw (a b v : Nat) : Nat := if v = a then b else if v = b then a else v
theorem sw_inj {a b v w : Nat} (h : sw a b v = sw a b w) : v = w := by
  unfold sw at h
  repeat' (split at h)
  all_goals omega
theorem sw_beq (a b v w : Nat) : (sw a b v == sw a b w) = (v == w) := by
  by_cases c : v = w
  · rw [c, beq_self_eq_true, beq_self_eq_true]
  · rw [beq_false_of_ne c, beq_false_of_ne (fun z => c (sw_inj z))]
theorem csx_sw {ga y : Nat → Nat} {a b : Nat} : ∀ n, csx ga (fun i => sw a b (y i)) n = csx ga y n
  | 0 => rfl
  | n + 1 => by
    rw [csx, csx, csx_sw n]
    congr 1
    exact cnt_congr (fun j _ => by rw [sw_beq])
section PO
variable (ga : Nat → Nat) (k m : Nat)
def Cp (x : Nat → Nat) (p : Nat) (y : Nat → Nat) : Prop := (∀ i, i < m → y i < k) ∧ ∀ i, i < p → y i = x i
def PO (C : (Nat → Nat) → Prop) (L : Nat) (B : Nat → Int32) (L' : Nat) (B' : Nat → Int32) : Prop :=
  (L' = L ∧ (∀ i, i < m → B' i = B i) ∧ ∀ y, C y → L ≤ csx ga y m) ∨
  (∃ x, C x ∧ csx ga x m = L' ∧ L' < L ∧ (∀ i, i < m → B' i = nI (x i)) ∧ ∀ y, C y → csx ga x m ≤ csx ga y m ∧ (csx ga y m = csx ga x m → cdx k x m ≤ cdx k y m))
end PO
section PP
variable {ga : Nat → Nat} {k m : Nat} {x0 : Nat → Nat} {p : Nat} {L L1 L2 : Nat} {B B1 B2 : Nat → Int32}
theorem PO_leaf {S : Nat} (h : ∀ i, i < m → x0 i < k) (hS : S = csx ga x0 m) (hL : S < L) (hB : ∀ i, i < m → B1 i = nI (x0 i)) : PO ga k m (Cp k m x0 m) L B S B1 := by
  right
  refine ⟨x0, ⟨h, fun i _ => rfl⟩, hS.symm, hL, hB, fun y hy => ?_⟩
  have e : csx ga y m = csx ga x0 m := csx_congr hy.2
  exact ⟨by omega, fun _ => by rw [cdx_congr hy.2]; exact Nat.le_refl _⟩
theorem PO_prune (hp : p ≤ m) (hL : L ≤ csx ga x0 p) (hB : ∀ i, i < m → B1 i = B i) : PO ga k m (Cp k m x0 p) L B L B1 := by
  left
  refine ⟨rfl, hB, fun y hy => ?_⟩
  have e : csx ga y p = csx ga x0 p := csx_congr hy.2
  have := csx_mono (ga := ga) (x := y) hp
  omega
theorem PO_init : PO ga k m (fun y => Cp k m x0 p y ∧ y p < 0) L B L B := Or.inl ⟨rfl, fun _ _ => rfl, fun y hy => absurd hy.2 (Nat.not_lt_zero _)⟩
theorem PO_step {R : Nat} (hp : p < m) (h1 : PO ga k m (fun y => Cp k m x0 p y ∧ y p < R) L B L1 B1) (h2 : PO ga k m (Cp k m (fun i => if i = p then R else x0 i) (p + 1)) L1 B1 L2 B2) : PO ga k m (fun y => Cp k m x0 p y ∧ y p < R + 1) L B L2 B2 := by
  have into : ∀ y, Cp k m x0 p y → y p = R → Cp k m (fun i => if i = p then R else x0 i) (p + 1) y := by
    intro y hy e
    refine ⟨hy.1, fun i hi => ?_⟩
    by_cases c : i = p
    · simp only [c, if_true]; exact e
    · simp only [c, if_false]; exact hy.2 i (by omega)
  have from1 : ∀ y, Cp k m (fun i => if i = p then R else x0 i) (p + 1) y → Cp k m x0 p y ∧ y p < R + 1 := by
    intro y hy
    refine ⟨⟨hy.1, fun i hi => ?_⟩, ?_⟩
    · have := hy.2 i (by omega)
      simp only [show ¬ i = p by omega, if_false] at this; exact this
    · have := hy.2 p (by omega)
      simp only [if_true] at this; omega
  rcases h2 with ⟨e1, e2, e3⟩ | ⟨x, x1, x2, x3, x4, x5⟩
  · subst e1
    rcases h1 with ⟨f1, f2, f3⟩ | ⟨x, x1, x2, x3, x4, x5⟩
    · left
      refine ⟨f1, fun i hi => by rw [e2 i hi, f2 i hi], fun y hy => ?_⟩
      by_cases c : y p < R
      · exact f3 y ⟨hy.1, c⟩
      · have := e3 y (into y hy.1 (by omega)); omega
    · right
      refine ⟨x, ⟨x1.1, by omega⟩, x2, x3, fun i hi => by rw [e2 i hi, x4 i hi], fun y hy => ?_⟩
      by_cases c : y p < R
      · exact x5 y ⟨hy.1, c⟩
      · have h := e3 y (into y hy.1 (by omega))
        refine ⟨by omega, fun _ => Nat.le_of_lt (cdx_lt (p := p) hp (fun j hj => by rw [x1.1.2 j hj, hy.1.2 j hj]) (by omega) x1.1.1)⟩
  · right
    have hlt : L2 < L ∧ ∀ y, (Cp k m x0 p y ∧ y p < R) → L2 < csx ga y m := by
      rcases h1 with ⟨f1, f2, f3⟩ | ⟨x', y1, y2, y3, y4, y5⟩
      · exact ⟨by omega, fun y hy => by have := f3 y hy; omega⟩
      · exact ⟨by omega, fun y hy => by have := (y5 y hy).1; omega⟩
    refine ⟨x, from1 x x1, x2, hlt.1, x4, fun y hy => ?_⟩
    by_cases c : y p < R
    · have := hlt.2 y ⟨hy.1, c⟩
      exact ⟨by omega, fun z => by omega⟩
    · exact x5 y (into y hy.1 (by omega))
theorem PO_end {U R : Nat} (hp : p < m) (hU : ∀ j, j < p → x0 j < U) (hR : R = k ∨ (R = U + 1 ∧ R < k)) (h : PO ga k m (fun y => Cp k m x0 p y ∧ y p < R) L B L1 B1) : PO ga k m (Cp k m x0 p) L B L1 B1 := by
  -- each laying has one in the tried rows, no dearer and no later
  have key : ∀ y, Cp k m x0 p y → ∃ y', (Cp k m x0 p y' ∧ y' p < R) ∧ csx ga y' m = csx ga y m ∧ cdx k y' m ≤ cdx k y m := by
    intro y hy
    by_cases c : y p < R
    · exact ⟨y, ⟨hy, c⟩, rfl, Nat.le_refl _⟩
    · have hyp := hy.1 p hp
      rcases hR with hR | ⟨hR, hk⟩
      · omega
      · have pre : ∀ j, j < p → sw U (y p) (y j) = y j := by
          intro j hj
          have h1 := hy.2 j hj
          have h2 := hU j hj
          unfold sw
          rw [if_neg (by omega), if_neg (by omega)]
        have atp : sw U (y p) (y p) = U := by
          unfold sw
          rw [if_neg (by omega), if_pos rfl]
        have inn : ∀ i, i < m → sw U (y p) (y i) < k := by
          intro i hi
          have h1 := hy.1 i hi
          unfold sw
          split
          · exact hyp
          · split <;> omega
        refine ⟨fun i => sw U (y p) (y i), ⟨⟨inn, fun i hi => ?_⟩, ?_⟩, csx_sw m, Nat.le_of_lt (cdx_lt (p := p) hp pre ?_ inn)⟩
        · show sw U (y p) (y i) = x0 i
          rw [pre i hi, hy.2 i hi]
        · show sw U (y p) (y p) < R
          rw [atp]; omega
        · rw [atp]; omega
  rcases h with ⟨f1, f2, f3⟩ | ⟨x, x1, x2, x3, x4, x5⟩
  · left
    refine ⟨f1, f2, fun y hy => ?_⟩
    obtain ⟨y', a1, a2, a3⟩ := key y hy
    rw [← a2]; exact f3 y' a1
  · right
    refine ⟨x, x1.1, x2, x3, x4, fun y hy => ?_⟩
    obtain ⟨y', a1, a2, a3⟩ := key y hy
    have := x5 y' a1
    rw [a2] at this
    exact ⟨this.1, fun z => Nat.le_trans (this.2 z) a3⟩
end PP
def bcode (ga : Nat → Nat) (k m : Nat) : Nat := fw (fun c => csx ga (dgt k m c) m) (k ^ m)
theorem bcode_lt (ga : Nat → Nat) (k m : Nat) (hk : 0 < k) : bcode ga k m < k ^ m := fw_lt _ (Nat.pow_pos hk)
/-- what the search finds is the first code of the least cost -/
theorem PO_code {ga : Nat → Nat} {k m L : Nat} {x0 : Nat → Nat} {B B' : Nat → Int32} (hk : 0 < k) (h : PO ga k m (Cp k m x0 0) 100 B L B') (hm : m ≤ 7) : L = csx ga (dgt k m (bcode ga k m)) m ∧ ∀ i, i < m → B' i = nI (dgt k m (bcode ga k m) i) := by
  have hb := bcode_lt ga k m hk
  have any : ∀ c, Cp k m x0 0 (dgt k m c) := fun c => ⟨fun i _ => dgt_lt hk, fun i hi => by omega⟩
  rcases h with ⟨f1, f2, f3⟩ | ⟨x, x1, x2, x3, x4, x5⟩
  · have h1 := f3 _ (any 0)
    have h2 := csx_le ga (dgt k m 0) m
    omega
  · have h1 := x5 _ (any (bcode ga k m))
    have hx := cdx_pow (k := k) (x := x) x1.1
    have e1 : csx ga (dgt k m (cdx k x m)) m = csx ga x m := csx_congr (fun j hj => dgt_cdx hj x1.1)
    have h2 : csx ga (dgt k m (bcode ga k m)) m ≤ csx ga (dgt k m (cdx k x m)) m := fw_min (mn := fun c => csx ga (dgt k m c) m) hx
    have e2 : csx ga (dgt k m (bcode ga k m)) m = csx ga x m := by omega
    have h3 := h1.2 e2
    rw [cdx_dgt hb (Nat.le_refl _), Nat.sub_self, Nat.pow_zero, Nat.div_one] at h3
    have e3 : cdx k x m = bcode ga k m := by
      rcases Nat.lt_or_ge (cdx k x m) (bcode ga k m) with c | c
      · have h4 : csx ga (dgt k m (bcode ga k m)) m < csx ga (dgt k m (cdx k x m)) m := fw_first (mn := fun c => csx ga (dgt k m c) m) c
        omega
      · omega
    refine ⟨by omega, fun i hi => ?_⟩
    rw [x4 i hi, ← e3, dgt_cdx hi x1.1]

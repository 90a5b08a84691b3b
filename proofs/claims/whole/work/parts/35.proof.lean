/-! ===== proof: the longest row of those who come and go one behind the other ===== -/
def mxc (ga f : Nat → Nat) (k : Nat) : Nat → Nat
  | 0 => 1
  | j + 1 => if ga k < ga (k + 1 + j) ∧ mxc ga f k j < f (k + 1 + j) + 1 then f (k + 1 + j) + 1 else mxc ga f k j
def chs (ga : Nat → Nat) (m : Nat) : Nat → Nat → Nat
  | 0, _ => 0
  | d + 1, i => if i = m - 1 - d then mxc ga (chs ga m d) (m - 1 - d) d else chs ga m d i
def mst (ga : Nat → Nat) (m : Nat) : Nat → Nat
  | 0 => 0
  | d + 1 => if mst ga m d < chs ga m (d + 1) (m - 1 - d) then chs ga m (d + 1) (m - 1 - d) else mst ga m d
def cdt (ga f : Nat → Nat) (la : Option Nat) (len j : Nat) : Bool := (match la with
  | none => true
  | some l => decide (l < j) && decide (ga l < ga j)) && (f j == len)
def pk2 (cd : Nat → Bool) (cm : Nat → Nat) : Nat → Option Nat
  | 0 => none
  | j + 1 => if cd j then (match pk2 cd cm j with
    | none => some j
    | some b => if cm b ≤ cm j then some b else some j) else pk2 cd cm j
def pq (ga f cm : Nat → Nat) (m most : Nat) : Nat → Option Nat
  | 0 => none
  | q + 1 => pk2 (cdt ga f (pq ga f cm m most q) (most - q)) cm m
theorem mxc_le {ga f : Nat → Nat} {k B : Nat} (h : ∀ i, f i ≤ B) : ∀ j, mxc ga f k j ≤ B + 1
  | 0 => by rw [mxc]; omega
  | j + 1 => by
    rw [mxc]
    have h1 := mxc_le (ga := ga) (k := k) h j
    have h2 := h (k + 1 + j)
    split <;> omega
theorem mxc_pos {ga f : Nat → Nat} {k : Nat} : ∀ j, 1 ≤ mxc ga f k j
  | 0 => by rw [mxc]; omega
  | j + 1 => by
    rw [mxc]
    have h1 := mxc_pos (ga := ga) (f := f) (k := k) j
    split <;> omega
theorem mxc_w {ga f : Nat → Nat} {k v : Nat} : ∀ {j : Nat}, mxc ga f k j = v + 2 → ∃ i, i < j ∧ ga k < ga (k + 1 + i) ∧ f (k + 1 + i) = v + 1
  | 0, h => by rw [mxc] at h; omega
  | j + 1, h => by
    rw [mxc] at h
    by_cases c : ga k < ga (k + 1 + j) ∧ mxc ga f k j < f (k + 1 + j) + 1
    · rw [if_pos c] at h
      exact ⟨j, by omega, c.1, by omega⟩
    · rw [if_neg c] at h
      obtain ⟨i, h1, h2, h3⟩ := mxc_w h
      exact ⟨i, by omega, h2, h3⟩
theorem mxc_congr {ga f g : Nat → Nat} {k : Nat} : ∀ {j : Nat}, (∀ i, i < j → f (k + 1 + i) = g (k + 1 + i)) → mxc ga f k j = mxc ga g k j
  | 0, _ => rfl
  | j + 1, h => by
    rw [mxc, mxc, mxc_congr (fun i hi => h i (by omega)), h j (by omega)]
theorem chs_le {ga : Nat → Nat} {m : Nat} : ∀ d i, chs ga m d i ≤ d
  | 0, i => by rw [chs]; omega
  | d + 1, i => by
    rw [chs]
    by_cases c : i = m - 1 - d
    · rw [if_pos c]; exact mxc_le (chs_le d) d
    · rw [if_neg c]; have := chs_le (ga := ga) (m := m) d i; omega
theorem mst_le {ga : Nat → Nat} {m : Nat} : ∀ d, mst ga m d ≤ d
  | 0 => by rw [mst]; omega
  | d + 1 => by
    rw [mst]
    have h1 := mst_le (ga := ga) (m := m) d
    have h2 := chs_le (ga := ga) (m := m) (d + 1) (m - 1 - d)
    split <;> omega
theorem chs_keep {ga : Nat → Nat} {m i : Nat} : ∀ {e d : Nat}, d ≤ e → e ≤ m → m - d ≤ i → i < m → chs ga m e i = chs ga m d i
  | 0, d, h, _, _, _ => by rw [show d = 0 by omega]
  | e + 1, d, h, h1, h2, h3 => by
    by_cases c : d = e + 1
    · rw [c]
    · rw [chs, if_neg (by omega)]
      exact chs_keep (by omega) (by omega) h2 h3
theorem mst_w {ga : Nat → Nat} {m : Nat} : ∀ {d : Nat}, d ≤ m → mst ga m d = 0 ∨ ∃ i, m - d ≤ i ∧ i < m ∧ chs ga m d i = mst ga m d
  | 0, _ => Or.inl rfl
  | d + 1, h => by
    rw [mst]
    by_cases c : mst ga m d < chs ga m (d + 1) (m - 1 - d)
    · rw [if_pos c]
      exact Or.inr ⟨m - 1 - d, by omega, by omega, rfl⟩
    · rw [if_neg c]
      rcases mst_w (ga := ga) (m := m) (d := d) (by omega) with h1 | ⟨i, h1, h2, h3⟩
      · exact Or.inl h1
      · exact Or.inr ⟨i, by omega, h2, by rw [chs, if_neg (by omega), h3]⟩
theorem chs_at {ga : Nat → Nat} {m i : Nat} (h : i < m) : chs ga m m i = mxc ga (chs ga m (m - 1 - i)) i (m - 1 - i) := by
  rw [chs_keep (d := m - 1 - i + 1) (by omega) (by omega) (by omega) h, chs, if_pos (by omega), show m - 1 - (m - 1 - i) = i by omega]
theorem chs_next {ga : Nat → Nat} {m i v : Nat} (h : i < m) (hv : chs ga m m i = v + 2) : ∃ j, i < j ∧ j < m ∧ ga i < ga j ∧ chs ga m m j = v + 1 := by
  rw [chs_at h] at hv
  obtain ⟨q, h1, h2, h3⟩ := mxc_w hv
  exact ⟨i + 1 + q, by omega, by omega, h2, by rw [chs_keep (d := m - 1 - i) (by omega) (by omega) (by omega) (by omega)]; exact h3⟩
theorem pk2_no {cd : Nat → Bool} {cm : Nat → Nat} : ∀ {j : Nat}, (∀ i, i < j → cd i = false) → pk2 cd cm j = none
  | 0, _ => rfl
  | j + 1, h => by rw [pk2, h j (by omega), if_neg (by decide)]; exact pk2_no (fun i hi => h i (by omega))
theorem pk2_some {cd : Nat → Bool} {cm : Nat → Nat} : ∀ {j b : Nat}, pk2 cd cm j = some b → b < j ∧ cd b = true
  | 0, b, h => by cases h
  | j + 1, b, h => by
    rw [pk2] at h
    by_cases c : cd j = true
    · rw [if_pos c] at h
      cases q : pk2 cd cm j with
      | none => rw [q] at h; cases h; exact ⟨by omega, c⟩
      | some x =>
        rw [q] at h
        have h : (if cm x ≤ cm j then some x else some j) = some b := h
        by_cases e : cm x ≤ cm j
        · rw [if_pos e] at h; cases h; have := pk2_some q; exact ⟨by omega, this.2⟩
        · rw [if_neg e] at h; cases h; exact ⟨by omega, c⟩
    · rw [if_neg c] at h
      have := pk2_some h; exact ⟨by omega, this.2⟩
theorem pk2_ex {cd : Nat → Bool} {cm : Nat → Nat} : ∀ {j i : Nat}, i < j → cd i = true → ∃ b, pk2 cd cm j = some b
  | 0, i, h, _ => by omega
  | j + 1, i, h, hc => by
    rw [pk2]
    by_cases c : cd j = true
    · rw [if_pos c]
      cases q : pk2 cd cm j with
      | none => exact ⟨_, rfl⟩
      | some x =>
        show ∃ b, (if cm x ≤ cm j then some x else some j) = some b
        by_cases e : cm x ≤ cm j
        · rw [if_pos e]; exact ⟨_, rfl⟩
        · rw [if_neg e]; exact ⟨_, rfl⟩
    · rw [if_neg c]
      refine pk2_ex (i := i) ?_ hc
      rcases Nat.lt_or_ge i j with z | z
      · exact z
      · rw [show i = j by omega] at hc; exact absurd hc c
theorem pq_ok {ga cm : Nat → Nat} {m : Nat} : ∀ {q : Nat}, q < mst ga m m → ∃ j, pq ga (chs ga m m) cm m (mst ga m m) (q + 1) = some j ∧ j < m ∧ chs ga m m j = mst ga m m - q
  | 0, h => by
    rcases mst_w (ga := ga) (m := m) (Nat.le_refl m) with h1 | ⟨i, h1, h2, h3⟩
    · omega
    · obtain ⟨b, hb⟩ := pk2_ex (cd := cdt ga (chs ga m m) none (mst ga m m - 0)) (cm := cm) h2 (by unfold cdt; simp [h3])
      have h4 := pk2_some hb
      refine ⟨b, hb, h4.1, ?_⟩
      have h5 := h4.2
      unfold cdt at h5
      simp at h5
      exact h5
  | q + 1, h => by
    obtain ⟨l, h1, h2, h3⟩ := pq_ok (ga := ga) (cm := cm) (m := m) (q := q) (by omega)
    obtain ⟨v, hv⟩ : ∃ v, mst ga m m - q = v + 2 := ⟨mst ga m m - q - 2, by omega⟩
    rw [hv] at h3
    obtain ⟨j, e1, e2, e3, e4⟩ := chs_next h2 h3
    have e5 : mst ga m m - (q + 1) = v + 1 := by omega
    obtain ⟨b, hb⟩ := pk2_ex (cd := cdt ga (chs ga m m) (some l) (mst ga m m - (q + 1))) (cm := cm) e2 (by unfold cdt; simp [e1, e3, e4, e5])
    have h4 := pk2_some hb
    refine ⟨b, by rw [pq, h1]; exact hb, h4.1, ?_⟩
    have h5 := h4.2
    unfold cdt at h5
    simp at h5
    exact h5.2
def st0 (o : Option Nat) : Nat := match o with
  | none => 0
  | some l => l + 1
theorem pI_1 (o : Option Nat) : pI o + 1 = nI (st0 o) := by
  cases o with
  | none => decide
  | some l => exact nI_1 l
def dn (m d : Nat) : Int32 := if d < m then nI (m - 1 - d) else -1
theorem dn_0 (m : Nat) : nI m - 1 = dn m 0 := by
  unfold dn
  by_cases h : 0 < m
  · rw [if_pos h, nI_pd h, Nat.sub_zero]
  · rw [if_neg h, show m = 0 by omega]; decide
theorem dn_s {m d : Nat} (h : d < m) : dn m d + (-1) = dn m (d + 1) := by
  unfold dn
  rw [if_pos h]
  by_cases c : d + 1 < m
  · rw [if_pos c, show m - 1 - d = m - 1 - (d + 1) + 1 by omega, pk_m1]
  · rw [if_neg c, show m - 1 - d = 0 by omega]; decide
theorem dn_in {m d : Nat} (h : d < m) : dn m d = nI (m - 1 - d) := if_pos h
theorem dn_e (m : Nat) : dn m m = -1 := if_neg (Nat.lt_irrefl _)
theorem ite_max (a b : Nat) (p : Prop) [Decidable p] (hp : p ↔ a < b) : (if p then nI b else nI a) = nI (if a < b then b else a) := by
  by_cases h : a < b
  · rw [if_pos (hp.mpr h), if_pos h]
  · rw [if_neg (fun z => h (hp.mp z)), if_neg h]

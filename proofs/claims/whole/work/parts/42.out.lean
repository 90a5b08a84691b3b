/-! ===== out: who is inside when; one enters ===== -/
def ins (o : Nat → Nat) (k τ : Nat) : Nat := cnt (fun i => decide (τ < o i)) k
def fnd (o : Nat → Nat) (k rm : Nat) : Nat → Nat → Nat
  | 0, τ => τ
  | f + 1, τ => if ins o k τ < rm then τ else fnd o k rm f (τ + 1)
def IsE (o : Nat → Nat) (k rm τ e : Nat) : Prop := τ ≤ e ∧ ins o k e < rm ∧ ∀ x, τ ≤ x → x < e → rm ≤ ins o k x
theorem cnt_z0 {S : Nat → Bool} : ∀ {m : Nat}, (∀ g, g < m → S g = false) → cnt S m = 0
  | 0, _ => rfl
  | m + 1, h => by rw [cnt, cnt_z0 (fun g hg => h g (by omega)), h m (by omega)]; rfl
theorem cnt_pos {S : Nat → Bool} : ∀ {m : Nat}, 0 < cnt S m → ∃ g, g < m ∧ S g = true
  | 0, h => by rw [cnt] at h; omega
  | m + 1, h => by
    by_cases c : S m = true
    · exact ⟨m, by omega, c⟩
    · rw [cnt, if_neg c] at h
      obtain ⟨g, h1, h2⟩ := cnt_pos (S := S) (m := m) (by omega)
      exact ⟨g, by omega, h2⟩
theorem ins_congr {o p : Nat → Nat} {k τ : Nat} (h : ∀ i, i < k → o i = p i) : ins o k τ = ins p k τ := cnt_congr (fun i hi => by rw [h i hi])
theorem ins_le (o : Nat → Nat) (k τ : Nat) : ins o k τ ≤ k := cnt_le _ _
theorem fnd_is {o : Nat → Nat} {k rm B : Nat} (hr : 0 < rm) (ho : ∀ i, i < k → o i ≤ B) : ∀ {f τ : Nat}, B ≤ τ + f → IsE o k rm τ (fnd o k rm f τ)
  | 0, τ, h => by
    refine ⟨Nat.le_refl _, ?_, fun x h1 h2 => ?_⟩
    · rw [fnd, ins, cnt_z0 (fun i hi => by have := ho i hi; simp; omega)]; exact hr
    · rw [fnd] at h2; omega
  | f + 1, τ, h => by
    rw [fnd]
    by_cases c : ins o k τ < rm
    · rw [if_pos c]
      exact ⟨Nat.le_refl _, c, fun x h1 h2 => by omega⟩
    · rw [if_neg c]
      obtain ⟨h1, h2, h3⟩ := fnd_is hr ho (f := f) (τ := τ + 1) (by omega)
      refine ⟨by omega, h2, fun x x1 x2 => ?_⟩
      by_cases e : x = τ
      · rw [e]; omega
      · exact h3 x (by omega) x2
theorem IsE_u {o : Nat → Nat} {k rm τ a b : Nat} (ha : IsE o k rm τ a) (hb : IsE o k rm τ b) : a = b := by
  rcases Nat.lt_trichotomy a b with c | c | c
  · have h1 := hb.2.2 a ha.1 c
    have h2 := ha.2.1
    omega
  · exact c
  · have h1 := ha.2.2 b hb.1 c
    have h2 := hb.2.1
    omega
theorem IsE_le {o : Nat → Nat} {k rm τ e B : Nat} (hr : 0 < rm) (ho : ∀ i, i < k → o i ≤ B) (hτ : τ ≤ B) (h : IsE o k rm τ e) : e ≤ B := by
  by_cases c : e = τ
  · omega
  · have h0 := h.1
    have h1 := h.2.2 (e - 1) (by omega) (by omega)
    obtain ⟨i, h2, h3⟩ := cnt_pos (S := fun i => decide (e - 1 < o i)) (m := k) (by show 0 < ins o k (e - 1); omega)
    have h4 := ho i h2
    simp at h3
    omega
def lst (o : Nat → Nat) : Nat → Nat
  | 0 => 0
  | k + 1 => if lst o k < o k then o k else lst o k
def nxo (o : Nat → Nat) (τ l : Nat) : Nat → Nat
  | 0 => l
  | i + 1 => if o i ≤ τ then nxo o τ l i else (if o i < nxo o τ l i then o i else nxo o τ l i)
theorem lst_ge {o : Nat → Nat} : ∀ {k i : Nat}, i < k → o i ≤ lst o k
  | 0, i, h => by omega
  | k + 1, i, h => by
    rw [lst]
    by_cases c : i = k
    · subst c; split <;> omega
    · have := lst_ge (o := o) (k := k) (i := i) (by omega)
      split <;> omega
theorem lst_ex {o : Nat → Nat} : ∀ {k : Nat}, lst o k = 0 ∨ ∃ i, i < k ∧ o i = lst o k
  | 0 => Or.inl rfl
  | k + 1 => by
    rw [lst]
    by_cases c : lst o k < o k
    · rw [if_pos c]; exact Or.inr ⟨k, by omega, rfl⟩
    · rw [if_neg c]
      rcases lst_ex (o := o) (k := k) with h | ⟨i, h1, h2⟩
      · exact Or.inl h
      · exact Or.inr ⟨i, by omega, h2⟩
theorem lst_le {o : Nat → Nat} {B : Nat} : ∀ {k : Nat}, (∀ i, i < k → o i ≤ B) → lst o k ≤ B
  | 0, _ => Nat.zero_le _
  | k + 1, h => by
    rw [lst]
    have h1 := h k (by omega)
    have h2 := lst_le (o := o) (k := k) (fun i hi => h i (by omega))
    split <;> omega
theorem lst_congr {o p : Nat → Nat} : ∀ {k : Nat}, (∀ i, i < k → o i = p i) → lst o k = lst p k
  | 0, _ => rfl
  | k + 1, h => by rw [lst, lst, lst_congr (fun i hi => h i (by omega)), h k (by omega)]
theorem nxo_in {o : Nat → Nat} {τ l : Nat} (hl : τ < l) : ∀ {k : Nat}, τ < nxo o τ l k ∧ (∀ i, i < k → τ < o i → nxo o τ l k ≤ o i) ∧ (nxo o τ l k = l ∨ ∃ i, i < k ∧ o i = nxo o τ l k)
  | 0 => ⟨hl, fun i hi => by omega, Or.inl rfl⟩
  | k + 1 => by
    obtain ⟨h1, h2, h3⟩ := nxo_in (o := o) (l := l) hl (k := k)
    rw [nxo]
    by_cases c : o k ≤ τ
    · rw [if_pos c]
      refine ⟨h1, fun i hi hx => ?_, ?_⟩
      · by_cases e : i = k
        · subst e; omega
        · exact h2 i (by omega) hx
      · rcases h3 with h | ⟨i, h4, h5⟩
        · exact Or.inl h
        · exact Or.inr ⟨i, by omega, h5⟩
    · rw [if_neg c]
      by_cases d : o k < nxo o τ l k
      · rw [if_pos d]
        refine ⟨by omega, fun i hi hx => ?_, Or.inr ⟨k, by omega, rfl⟩⟩
        by_cases e : i = k
        · subst e; omega
        · have := h2 i (by omega) hx; omega
      · rw [if_neg d]
        refine ⟨h1, fun i hi hx => ?_, ?_⟩
        · by_cases e : i = k
          · subst e; omega
          · exact h2 i (by omega) hx
        · rcases h3 with h | ⟨i, h4, h5⟩
          · exact Or.inl h
          · exact Or.inr ⟨i, by omega, h5⟩
/-- the next one out: nobody goes out before it, and one fewer is inside then -/
theorem nxo_step {o : Nat → Nat} {k τ B : Nat} (ho : ∀ i, i < k → o i ≤ B) (h : 0 < ins o k τ) : τ < nxo o τ (lst o k) k ∧ nxo o τ (lst o k) k ≤ B ∧ (∀ x, τ ≤ x → x < nxo o τ (lst o k) k → ins o k x = ins o k τ) ∧ ins o k (nxo o τ (lst o k) k) < ins o k τ := by
  obtain ⟨i0, a1, a2⟩ := cnt_pos h
  simp at a2
  have hl : τ < lst o k := by have := lst_ge (o := o) a1; omega
  obtain ⟨h1, h2, h3⟩ := nxo_in (o := o) hl (k := k)
  have ex : ∃ i, i < k ∧ o i = nxo o τ (lst o k) k := by
    rcases h3 with h3 | h3
    · rcases lst_ex (o := o) (k := k) with h4 | ⟨i, h4, h5⟩
      · omega
      · exact ⟨i, h4, by rw [h3, h5]⟩
    · exact h3
  obtain ⟨i, b1, b2⟩ := ex
  refine ⟨h1, by rw [← b2]; exact ho i b1, fun x x1 x2 => ?_, ?_⟩
  · refine cnt_congr (fun j hj => ?_)
    by_cases c : τ < o j
    · have := h2 j hj c
      simp [c]; omega
    · simp [c]; omega
  · rcases Nat.lt_or_ge (ins o k (nxo o τ (lst o k) k)) (ins o k τ) with c | c
    · exact c
    · have := cnt_same (S := fun i => decide (nxo o τ (lst o k) k < o i)) (T := fun i => decide (τ < o i)) (m := k) (fun g _ hg => by simp at hg ⊢; omega) c i b1
      simp at this
      omega
section OZ
variable (rm : Nat) (mi du : Nat → Nat)
def eN (s : Nat × (Nat → Nat)) (k : Nat) : Nat := fnd s.2 k rm 2000 (if s.1 < mi k then mi k else s.1)
def oz : Nat → Nat × (Nat → Nat)
  | 0 => (0, fun _ => 0)
  | k + 1 => (eN rm mi (oz k) k, fun i => if i = k then eN rm mi (oz k) k + du k else (oz k).2 i)
end OZ
section OB
variable {rm : Nat} {mi du : Nat → Nat}
theorem oz_keep {i : Nat} : ∀ {t k : Nat}, k ≤ t → i < k → (oz rm mi du t).2 i = (oz rm mi du k).2 i
  | 0, k, h, h1 => by omega
  | t + 1, k, h, h1 => by
    by_cases c : k = t + 1
    · rw [c]
    · rw [oz]
      simp only
      rw [if_neg (by omega)]
      exact oz_keep (by omega) h1
theorem oz_bd {t : Nat} (ht : t ≤ 10) (hr : 0 < rm) (hm : ∀ i, i < t → mi i < 100) (hd : ∀ i, i < t → du i ≤ 150) : ∀ {k : Nat}, k ≤ t → (oz rm mi du k).1 ≤ 99 + 150 * k ∧ (∀ i, i < k → (oz rm mi du k).2 i ≤ 99 + 150 * k)
  | 0, _ => ⟨Nat.zero_le _, fun i hi => by omega⟩
  | k + 1, h => by
    obtain ⟨h1, h2⟩ := oz_bd ht hr hm hd (k := k) (by omega)
    have m1 := hm k (by omega)
    have d1 := hd k (by omega)
    have e1 : eN rm mi (oz rm mi du k) k ≤ 99 + 150 * k := by
      refine IsE_le hr h2 ?_ (fnd_is hr h2 (by omega))
      split <;> omega
    rw [oz]
    simp only
    refine ⟨by omega, fun i hi => ?_⟩
    by_cases c : i = k
    · rw [if_pos c]; omega
    · rw [if_neg c]; have := h2 i (by omega); omega
theorem eN_is {t : Nat} (ht : t ≤ 10) (hr : 0 < rm) (hm : ∀ i, i < t → mi i < 100) (hd : ∀ i, i < t → du i ≤ 150) {k : Nat} (hk : k < t) : IsE (oz rm mi du k).2 k rm (if (oz rm mi du k).1 < mi k then mi k else (oz rm mi du k).1) (eN rm mi (oz rm mi du k) k) ∧ eN rm mi (oz rm mi du k) k ≤ 99 + 150 * k := by
  obtain ⟨h1, h2⟩ := oz_bd ht hr hm hd (k := k) (by omega)
  have m1 := hm k hk
  have h3 : IsE (oz rm mi du k).2 k rm (if (oz rm mi du k).1 < mi k then mi k else (oz rm mi du k).1) (eN rm mi (oz rm mi du k) k) := fnd_is hr h2 (by omega)
  refine ⟨h3, IsE_le hr h2 ?_ h3⟩
  split <;> omega
end OB

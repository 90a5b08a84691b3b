/-! ===== texts: faults, letters ===== -/
def sn (β : Nat → Nat) : Nat → Nat → Bool
  | 0, _ => false
  | k + 1, g => sn β k g || (g == β k - 97)
def okc (al : Nat → Bool) (β : Nat → Nat) (k : Nat) : Bool := decide (97 ≤ β k) && (decide (β k ≤ 106) && (al (β k - 97) && !(sn β k (β k - 97))))
def ft (P : Nat → Bool) : Nat → Nat → Int32
  | _, 0 => -1
  | k, r + 1 => if P k then ft P (k + 1) r else nI k
theorem ft_s {P : Nat → Bool} {k n : Nat} (h : k < n) : ft P k (n - k) = if P k then ft P (k + 1) (n - (k + 1)) else nI k := by
  obtain ⟨r, hr⟩ : ∃ r, n - k = r + 1 := ⟨n - k - 1, by omega⟩
  rw [hr, ft, show n - (k + 1) = r by omega]
theorem ft_ok {P : Nat → Bool} : ∀ (r k : Nat), k + r < 2 ^ 31 → ft P k r = -1 → ∀ j, k ≤ j → j < k + r → P j = true
  | 0, k, _, _, j, h1, h2 => by omega
  | r + 1, k, hk, h, j, h1, h2 => by
    rw [ft] at h
    by_cases c : P k = true
    · rw [if_pos c] at h
      by_cases e : j = k
      · rw [e]; exact c
      · exact ft_ok r (k + 1) (by omega) h j (by omega) (by omega)
    · rw [if_neg c] at h
      exact absurd h (m1_ne (by omega))
theorem ft_all {P : Nat → Bool} : ∀ (r k : Nat), (∀ j, k ≤ j → j < k + r → P j = true) → ft P k r = -1
  | 0, _, _ => rfl
  | r + 1, k, h => by
    rw [ft, if_pos (h k (Nat.le_refl k) (by omega))]
    exact ft_all r (k + 1) (fun j h1 h2 => h j (by omega) (by omega))
theorem sn_iff {β : Nat → Nat} : ∀ {k g : Nat}, sn β k g = true ↔ ∃ j, j < k ∧ g = β j - 97
  | 0, g => by simp [sn]
  | k + 1, g => by
    rw [sn, Bool.or_eq_true, sn_iff, beq_iff_eq]
    constructor
    · rintro (⟨j, h1, h2⟩ | h)
      · exact ⟨j, by omega, h2⟩
      · exact ⟨k, by omega, h⟩
    · rintro ⟨j, h1, h2⟩
      by_cases e : j = k
      · rw [e] at h2; exact Or.inr h2
      · exact Or.inl ⟨j, by omega, h2⟩
-- a byte as a letter
theorem let_in {b : Nat} (h1 : 97 ≤ b) (h2 : b ≤ 106) : nI b - 97 = nI (b - 97) := by rw [li97]; exact pk_sub h1
theorem let_lo {b : Nat} (h1 : b < 97) : nI b - 97 < 0 := by rw [li97]; exact pk_sneg (by omega) h1
theorem isGuest7_in {g : Nat} (h : g < 10) : fX7_isGuest (nI g) = some 1 := by
  unfold fX7_isGuest
  rw [in_eq, if_pos ⟨by rw [li0, nI_leI (by omega) (by omega)]; omega, by rw [li9, nI_leI (by omega) (by omega)]; omega⟩]
  rfl
theorem isGuest7_eq (x : Int32) : fX7_isGuest x = some (if 0 ≤ x ∧ x ≤ 9 then 1 else 0) := by
  unfold fX7_isGuest
  rw [in_eq, Option.bind_some, if_pos (b01 _)]
theorem isGuest6_eq (x : Int32) : fX6_isGuest x = some (if 0 ≤ x ∧ x ≤ 9 then 1 else 0) := by
  unfold fX6_isGuest
  rw [within_eq, Option.bind_some, if_pos (b01 _)]
theorem let_bad {b : Nat} (h : ¬ (97 ≤ b ∧ b ≤ 106)) (hb : b < 256) : ¬ (0 ≤ nI b - 97 ∧ nI b - 97 ≤ 9) := by
  intro z
  by_cases c : b < 97
  · exact absurd (let_lo c) (Int32.not_lt.mpr z.1)
  · have e : nI b - 97 = nI (b - 97) := by rw [li97]; exact pk_sub (by omega)
    rw [e, li9, nI_leI (by omega) (by omega)] at z
    omega
theorem bit_let {b : Nat} (hb : b < 256) : fX6_bit (nI b - 97) = some (M (fun g => decide (97 ≤ b) && (decide (b ≤ 106) && (g == b - 97)))) := by
  unfold fX6_bit
  by_cases c : b < 97
  · rw [if_pos (let_lo c)]
    rw [M_none]
    exact congrArg some (M_congr (fun g hg => by simp; omega))
  · have e : nI b - 97 = nI (b - 97) := by rw [li97]; exact pk_sub (by omega)
    rw [e, if_neg (nI_pos (by omega))]
    by_cases d : b ≤ 106
    · rw [if_neg (by rw [li10, nI_leI (by omega) (by omega)]; omega), M_bit _ (by omega)]
      exact congrArg some (M_congr (fun g hg => by simp [d, show 97 ≤ b by omega]))
    · rw [if_pos (by rw [li10, nI_leI (by omega) (by omega)]; omega), M_none]
      exact congrArg some (M_congr (fun g hg => by simp [d]))
-- the class's reader
theorem keep_eq (size fa kn bi at_ se : Int32) : fX4_keep size fa kn bi at_ se = some (at_, if at_ = -1 then size else 0, if at_ = -1 then se else 0) := by
  unfold fX4_keep
  by_cases h : at_ = -1
  · rw [if_pos h, if_pos h, if_pos h]
    unfold bX4_keep_19
    rw [if_pos h]; rfl
  · rw [if_neg h, if_neg h, if_neg h]
    unfold bX4_keep_19
    rw [if_neg h]; rfl
theorem judge_eq {N n : Nat} {β : Nat → Nat} {al : Nat → Bool} {bytes : Nat → Int32} {fa kn bi : Int32} (hN : 20 < N) (hn : n ≤ 10) (hb : ∀ k, k < n → bytes k = nI (β k) ∧ β k < 256) : fX4_judge N bytes (nI n) fa kn bi (M al) = some (ft (okc al β) 0 n, if ft (okc al β) 0 n = -1 then nI n else 0, if ft (okc al β) 0 n = -1 then M (sn β n) else 0) := by
  unfold fX4_judge
  obtain ⟨r, hr, e⟩ := lp_run (b := bX4_judge_7 N bytes (nI n) (M al) fa kn bi)
    (fun m s => (∃ k, k ≤ n ∧ m = n - k + 1 ∧ s = (M (sn β k), (-1 : Int32), nI k) ∧ ft (okc al β) 0 n = ft (okc al β) k (n - k)) ∨ (m = 0 ∧ ∃ k, k < 10 ∧ s.2.1 = nI k ∧ ft (okc al β) 0 n = nI k))
    (fun r => r = some (ft (okc al β) 0 n, if ft (okc al β) 0 n = -1 then nI n else 0, if ft (okc al β) 0 n = -1 then M (sn β n) else 0))
    (fun m s hp => by
      rcases hp with ⟨k, h1, h2, h3, h4⟩ | ⟨h1, k, h2, h3, h4⟩
      · subst h3
        by_cases c : k = n
        · subst c
          refine Or.inr ⟨_, rfl, fun κ => ?_⟩
          unfold bX4_judge_7 bX4_judge_61
          simp only
          rw [if_pos (by rw [nI_leI (by omega) (by omega)]; omega), keep_eq, Option.bind_some, h4, Nat.sub_self]
          rfl
        · obtain ⟨e1, e2⟩ := hb k (by omega)
          have step : ∀ κ, bX4_judge_7 N bytes (nI n) (M al) fa kn bi κ (M (sn β k), (-1 : Int32), nI k) = if okc al β k then κ (M (sn β (k + 1)), -1, nI (k + 1)) else κ (M (sn β k) ||| 0, nI k, nI (k + 1)) := by
            intro κ
            unfold bX4_judge_7 bX4_judge_50
            simp only
            rw [if_neg (by rw [nI_leI (by omega) (by omega)]; omega), if_true, if_pos (chk_nI (by omega) (by omega)), nI_clamp (by omega), e1, bit_let e2, Option.bind_some, M_and, M_andn, nI_1]
            by_cases d : okc al β k = true
            · have d' := d
              simp only [okc, Bool.and_eq_true, decide_eq_true_eq, Bool.not_eq_true'] at d'
              rw [if_pos d, if_neg, M_or]
              · congr 2
                refine M_congr (fun g hg => ?_)
                simp only [sn]
                by_cases w : g = β k - 97
                · subst w; simp [d'.1, d'.2.1, d'.2.2.1, d'.2.2.2]
                · have w' : (g == β k - 97) = false := beq_false_of_ne w
                  rw [w']; simp
              · rw [M_eq0]
                intro z
                have := z (β k - 97) (by omega)
                simp [d'.1, d'.2.1, d'.2.2.1, d'.2.2.2] at this
            · rw [if_neg d, if_pos]
              · congr 2
                rw [M_none]
                congr 1
                refine M_congr (fun g hg => ?_)
                by_cases w : g = β k - 97
                · subst w
                  simp only [okc, Bool.and_eq_true, decide_eq_true_eq, Bool.not_eq_true'] at d
                  by_cases q1 : 97 ≤ β k <;> by_cases q2 : β k ≤ 106 <;> by_cases q3 : al (β k - 97) <;> by_cases q4 : sn β k (β k - 97) <;> simp [q1, q2, q3, q4] at d ⊢
                · simp [w]
              · rw [M_eq0]
                intro g hg
                by_cases w : g = β k - 97
                · subst w
                  simp only [okc, Bool.and_eq_true, decide_eq_true_eq, Bool.not_eq_true'] at d
                  by_cases q1 : 97 ≤ β k <;> by_cases q2 : β k ≤ 106 <;> by_cases q3 : al (β k - 97) <;> by_cases q4 : sn β k (β k - 97) <;> simp [q1, q2, q3, q4] at d ⊢
                · simp [w]
          rw [ft_s (show k < n by omega)] at h4
          by_cases d : okc al β k = true
          · rw [if_pos d] at h4
            exact Or.inl ⟨n - (k + 1) + 1, _, by omega, Or.inl ⟨k + 1, by omega, rfl, rfl, h4⟩, fun κ => by rw [step, if_pos d]⟩
          · rw [if_neg d] at h4
            exact Or.inl ⟨0, (M (sn β k) ||| 0, nI k, nI (k + 1)), by omega, Or.inr ⟨rfl, k, by omega, rfl, h4⟩, fun κ => by rw [step, if_neg d]⟩
      · refine Or.inr ⟨_, rfl, fun κ => ?_⟩
        unfold bX4_judge_7 bX4_judge_61
        simp only [keep_eq, h3, h4, if_neg (m1_ne (show k < 2 ^ 31 by omega)), Option.bind_some]
        first | rfl | (split <;> rfl))
    N (n + 1) (0, -1, 0) (Or.inl ⟨0, by omega, by omega, by rw [show M (sn β 0) = 0 from M_none.symm]; rfl, by rw [Nat.sub_zero]⟩) (by omega)
  rw [e, hr]
-- the model's reader
theorem wrong_eq {N t n : Nat} {β : Nat → Nat} {al : Nat → Bool} {typed texts : Nat → Int32} (hN : 20 < N) (ht : t < 3) (hn : n ≤ 10) (hty : typed t = nI n) (hb : ∀ k, k < n → texts (10 * t + k) = nI (β k) ∧ β k < 256) : fX7_wrongLetter N typed texts (nI t) (M al) = some (ft (okc al β) 0 n) := by
  unfold fX7_wrongLetter
  have h0 : (M al, (0 : Int32)) = (fun k => (M (fun g => al g && !(sn β k g)), nI k)) 0 := by
    simp only [sn, Bool.not_false, Bool.and_true]; rfl
  rw [h0]
  rw [lp_eqx0 (b := bX7_wrongLetter_5 N typed texts (nI t) (M al)) n (fun k => (M (fun g => al g && !(sn β k g)), nI k)) (fun k => some (ft (okc al β) k (n - k))) (by omega) (fun k hk => ?_) (fun κ => ?_)]
  · rfl
  · obtain ⟨e1, e2⟩ := hb k hk
    have ix : ((10 : Int32) * nI t) + nI k = nI (10 * t + k) := by rw [li10, pk_mul, nI_add]
    have step : ∀ κ, bX7_wrongLetter_5 N typed texts (nI t) (M al) κ (M (fun g => al g && !(sn β k g)), nI k) = if okc al β k then κ (M (fun g => al g && !(sn β (k + 1) g)), nI (k + 1)) else some (nI k) := by
      intro κ
      unfold bX7_wrongLetter_5 nm
      simp only
      rw [if_pos (chk_nI ht (by omega)), nI_clamp (by omega), hty, if_neg (by rw [nI_leI (by omega) (by omega)]; omega), ix, if_pos (chk_nI (by omega) (by omega)), nI_clamp (by omega), e1, isGuest7_eq, Option.bind_some]
      by_cases c : 97 ≤ β k ∧ β k ≤ 106
      · rw [let_in c.1 c.2, if_pos (show (0 : Int32) ≤ nI (β k - 97) ∧ nI (β k - 97) ≤ 9 from ⟨by rw [li0, nI_leI (by omega) (by omega)]; omega, by rw [li9, nI_leI (by omega) (by omega)]; omega⟩), if_neg (by decide), isIn_M (by omega), Option.bind_some]
        by_cases d : (al (β k - 97) && !(sn β k (β k - 97))) = true
        · rw [if_pos d, if_neg (by decide), if_pos (by simp only [okc, c.1, c.2, decide_true, Bool.true_and]; exact d), M_bit _ (by omega), M_andn, nI_1]
          congr 2
          refine M_congr (fun g hg => ?_)
          simp only [sn]
          cases al g <;> cases sn β k g <;> simp
        · rw [if_neg d, if_pos rfl, if_neg (by simp only [okc, c.1, c.2, decide_true, Bool.true_and]; exact d)]
      · rw [if_neg (let_bad c e2), if_pos rfl, if_neg (fun z => c (by simp only [okc, Bool.and_eq_true, decide_eq_true_eq] at z; exact ⟨z.1, z.2.1⟩))]
    show _ ∧ some (ft (okc al β) k (n - k)) = _ ∨ ∀ κ, _ = some (ft (okc al β) k (n - k))
    rw [ft_s hk]
    by_cases d : okc al β k = true
    · exact Or.inl ⟨fun κ => by rw [step, if_pos d], by rw [if_pos d]⟩
    · exact Or.inr (fun κ => by rw [step, if_neg d, if_neg d])
  · unfold bX7_wrongLetter_5
    simp only
    rw [if_pos (chk_nI ht (by omega)), nI_clamp (by omega), hty, if_pos (by rw [nI_leI (by omega) (by omega)]; omega), Nat.sub_self]
    rfl
-- what the texts tell
def tF0 (n : Nat → Nat) (β : Nat → Nat → Nat) : Int32 := ft (okc (fun _ => true) (β 0)) 0 (n 0)
def tC (n : Nat → Nat) (β : Nat → Nat → Nat) : Nat := if tF0 n β = -1 then n 0 else 0
def cS (n : Nat → Nat) (β : Nat → Nat → Nat) : Nat → Bool := sn (β 0) (tC n β)
def tF1 (n : Nat → Nat) (β : Nat → Nat → Nat) : Int32 := ft (okc (cS n β) (β 1)) 0 (n 1)
def tG (n : Nat → Nat) (β : Nat → Nat → Nat) : Nat := if tF1 n β = -1 then n 1 else 0
def tF2a (n : Nat → Nat) (β : Nat → Nat → Nat) : Int32 := ft (okc (fun _ => true) (β 2)) 0 (n 2)
def tF2b (n : Nat → Nat) (β : Nat → Nat → Nat) : Int32 := ft (okc (fun g => decide (g < n 2)) (β 2)) 0 (n 2)
def tF2 (n : Nat → Nat) (β : Nat → Nat → Nat) : Int32 := if tF2a n β = -1 then (if tF2b n β = -1 then -1 else nI (n 2)) else tF2a n β
def tW (n : Nat → Nat) (β : Nat → Nat → Nat) : Nat := if tF2 n β = -1 then n 2 else 0
def fl (f v : Nat → Int32) : Nat → Nat → Int32
  | 0 => f
  | k + 1 => upd (fl f v k) k (v k)
theorem fl_eq (f v : Nat → Int32) : ∀ (n j : Nat), fl f v n j = if j < n then v j else f j
  | 0, j => by simp [fl]
  | n + 1, j => by
    rw [fl]
    unfold upd
    by_cases e : j = n
    · subst e; simp
    · rw [if_neg e, fl_eq f v n j]
      by_cases c : j < n
      · rw [if_pos c, if_pos (by omega)]
      · rw [if_neg c, if_neg (by omega)]
/-- the bytes that the model holds -/
def TM (n : Nat → Nat) (β : Nat → Nat → Nat) (typed texts : Nat → Int32) : Prop := ∀ t, t < 3 → typed t = nI (n t) ∧ n t ≤ 10 ∧ ∀ k, k < n t → texts (10 * t + k) = nI (β t k) ∧ β t k < 256
theorem shl_mask : ∀ n, n ≤ 10 → ((1 : Int32) <<< (nI n &&& 31)) - 1 = M (fun g => decide (g < n)) := by decide
theorem okc_lo {al : Nat → Bool} {β : Nat → Nat} {k : Nat} (h : okc al β k = true) : 97 ≤ β k ∧ β k ≤ 106 ∧ al (β k - 97) = true ∧ sn β k (β k - 97) = false := by
  simp only [okc, Bool.and_eq_true, decide_eq_true_eq, Bool.not_eq_true'] at h
  exact ⟨h.1, h.2.1, h.2.2.1, h.2.2.2⟩
theorem c_ok {n : Nat → Nat} {β : Nat → Nat → Nat} (hn : n 0 ≤ 10) {k : Nat} (hk : k < tC n β) : okc (fun _ => true) (β 0) k = true := by
  unfold tC at hk
  by_cases c : tF0 n β = -1
  · rw [if_pos c] at hk
    exact ft_ok (n 0) 0 (by omega) c k (by omega) (by omega)
  · rw [if_neg c] at hk; omega
theorem g_ok {n : Nat → Nat} {β : Nat → Nat → Nat} (hn : n 1 ≤ 10) {k : Nat} (hk : k < tG n β) : okc (cS n β) (β 1) k = true := by
  unfold tG at hk
  by_cases c : tF1 n β = -1
  · rw [if_pos c] at hk
    exact ft_ok (n 1) 0 (by omega) c k (by omega) (by omega)
  · rw [if_neg c] at hk; omega
theorem w_ok {n : Nat → Nat} {β : Nat → Nat → Nat} (hn : n 2 ≤ 10) {k : Nat} (hk : k < tW n β) : okc (fun g => decide (g < tW n β)) (β 2) k = true := by
  have hk0 := hk
  unfold tW at hk
  by_cases c : tF2 n β = -1
  · rw [if_pos c] at hk
    have e : tW n β = n 2 := by unfold tW; rw [if_pos c]
    rw [e]
    have c2 := c
    unfold tF2 at c2
    by_cases d : tF2a n β = -1
    · rw [if_pos d] at c2
      by_cases f : tF2b n β = -1
      · exact ft_ok (n 2) 0 (by omega) f k (by omega) (by omega)
      · rw [if_neg f] at c2
        exact absurd c2 (m1_ne (by omega))
    · rw [if_neg d] at c2
      exact absurd c2 d
  · rw [if_neg c] at hk; omega
theorem tC_le {n : Nat → Nat} {β : Nat → Nat → Nat} : tC n β ≤ n 0 := by unfold tC; split <;> omega
theorem tG_le {n : Nat → Nat} {β : Nat → Nat → Nat} : tG n β ≤ n 1 := by unfold tG; split <;> omega
theorem tW_le {n : Nat → Nat} {β : Nat → Nat → Nat} : tW n β ≤ n 2 := by unfold tW; split <;> omega
section RD
variable {N : Nat} {n : Nat → Nat} {β : Nat → Nat → Nat} {typed texts coming going worn : Nat → Int32} {comes came goes wears : Int32}
theorem rd3 (hN : 20 < N) (hT : TM n β typed texts) (p v2 v3 v4 c1 c3 c4 : Int32) (c2 c5 : Nat → Int32) (w : Nat) (hw : w ≤ n 2) (hl : ∀ k, k < w → 97 ≤ β 2 k) : lp (bX7_faultOf_214 N typed texts p v2 v3 v4 c1 c2 c3 c4 c5 (nI w)) N (0, worn) = some (if p = 0 then v2 else if p = 1 then v3 else v4, c1, c2, c3, c4, c5, nI w, fl worn (fun k => nI (β 2 k - 97)) w) := by
  obtain ⟨-, h10, hb⟩ := hT 2 (by omega)
  refine lp_eq0 w (fun k => (nI k, fl worn (fun k => nI (β 2 k - 97)) k)) _ (by omega) (fun k hk κ => ?_) (fun κ => ?_)
  · obtain ⟨e1, e2⟩ := hb k (by omega)
    unfold bX7_faultOf_214 nm
    simp only
    rw [if_neg (by rw [nI_leI (by omega) (by omega)]; omega), li20, nI_add, if_pos (chk_nI (by omega) (by omega)), nI_clamp (by omega), nI_clamp (show 20 + k < 2 ^ 31 by omega), show 20 + k = 10 * 2 + k from rfl, e1, if_pos (chk_nI (by omega) (by omega)), nI_1, li97, pk_sub (hl k hk)]
    rfl
  · unfold bX7_faultOf_214
    simp only
    rw [if_pos (by rw [nI_leI (by omega) (by omega)]; omega)]
    by_cases c : p = 0
    · rw [if_pos c, if_pos c]
    · rw [if_neg c, if_neg c]
      by_cases d : p = 1
      · rw [if_pos d, if_pos d]
      · rw [if_neg d, if_neg d]
theorem rd2 (hN : 20 < N) (hT : TM n β typed texts) (p v2 v3 c1 c3 c6 : Int32) (c2 : Nat → Int32) (g : Nat) (hg : g ≤ n 1) (hl : ∀ k, k < g → 97 ≤ β 1 k) : lp (bX7_faultOf_113 N typed texts p v2 v3 c1 c2 c3 (nI g) c6 worn) N (0, going) = some (if p = 0 then v2 else if p = 1 then v3 else tF2 n β, c1, c2, c3, nI g, fl going (fun k => nI (β 1 k - 97)) g, nI (tW n β), fl worn (fun k => nI (β 2 k - 97)) (tW n β)) := by
  obtain ⟨-, h10, hb⟩ := hT 1 (by omega)
  obtain ⟨t2, h2, hb2⟩ := hT 2 (by omega)
  refine lp_eq0 g (fun k => (nI k, fl going (fun k => nI (β 1 k - 97)) k)) _ (by omega) (fun k hk κ => ?_) (fun κ => ?_)
  · obtain ⟨e1, e2⟩ := hb k (by omega)
    unfold bX7_faultOf_113 nm
    simp only
    rw [if_neg (by rw [nI_leI (by omega) (by omega)]; omega), li10, nI_add, if_pos (chk_nI (by omega) (by omega)), nI_clamp (by omega), nI_clamp (show 10 + k < 2 ^ 31 by omega), show 10 + k = 10 * 1 + k from rfl, e1, if_pos (chk_nI (by omega) (by omega)), nI_1, li97, pk_sub (hl k hk)]
    rfl
  · unfold bX7_faultOf_113
    simp only
    rw [if_pos (by rw [nI_leI (by omega) (by omega)]; omega), li2, M_all, wrong_eq hN (by omega) h2 t2 hb2, Option.bind_some, nI_clamp (by omega), t2, shl_mask _ h2, wrong_eq hN (by omega) h2 t2 hb2]
    show (if tF2a n β = -1 then (some (tF2b n β)).bind _ else _) = _
    have fin : ∀ z : Int32, z = tF2 n β → bX7_faultOf_191 N typed texts p v2 v3 z c1 c2 c3 (nI g) (fl going (fun k => nI (β 1 k - 97)) g) c6 worn = some (if p = 0 then v2 else if p = 1 then v3 else tF2 n β, c1, c2, c3, nI g, fl going (fun k => nI (β 1 k - 97)) g, nI (tW n β), fl worn (fun k => nI (β 2 k - 97)) (tW n β)) := by
      intro z hz
      subst hz
      unfold bX7_faultOf_191 bX7_faultOf_208
      rw [cl2, t2]
      have hl2 : ∀ k, k < tW n β → 97 ≤ β 2 k := fun k hk => (okc_lo (w_ok h2 hk)).1
      by_cases c : tF2 n β = -1
      · have e : tW n β = n 2 := by unfold tW; rw [if_pos c]
        rw [if_pos c, ← e]
        exact rd3 hN hT p v2 v3 _ c1 c3 _ c2 _ _ tW_le hl2
      · have e : tW n β = 0 := by unfold tW; rw [if_neg c]
        rw [if_neg c, e]
        exact rd3 hN hT p v2 v3 _ c1 c3 _ c2 _ 0 (by omega) (fun k hk => by omega)
    by_cases c : tF2a n β = -1
    · rw [if_pos c, Option.bind_some]
      by_cases d : tF2b n β = -1
      · rw [if_pos d]
        exact fin _ (by unfold tF2; rw [if_pos c, if_pos d]; exact c)
      · rw [if_neg d]
        exact fin _ (by unfold tF2; rw [if_pos c, if_neg d])
    · rw [if_neg c]
      exact fin _ (by unfold tF2; rw [if_neg c]; rfl)
theorem faultOf_eq (hN : 20 < N) (hT : TM n β typed texts) (p : Int32) : fX7_faultOf N typed texts comes coming came goes going wears worn p = some (if p = 0 then tF0 n β else if p = 1 then tF1 n β else tF2 n β, nI (tC n β), fl coming (fun k => nI (β 0 k - 97)) (tC n β), M (cS n β), nI (tG n β), fl going (fun k => nI (β 1 k - 97)) (tG n β), nI (tW n β), fl worn (fun k => nI (β 2 k - 97)) (tW n β)) := by
  obtain ⟨t0, h0, hb0⟩ := hT 0 (by omega)
  obtain ⟨t1, h1, hb1⟩ := hT 1 (by omega)
  have hl0 : ∀ k, k < tC n β → 97 ≤ β 0 k ∧ β 0 k ≤ 106 := fun k hk => ⟨(okc_lo (c_ok h0 hk)).1, (okc_lo (c_ok h0 hk)).2.1⟩
  have hl1 : ∀ k, k < tG n β → 97 ≤ β 1 k := fun k hk => (okc_lo (g_ok h1 hk)).1
  have main : ∀ v : Int32, v = tF0 n β → ∀ z : Nat, z = tC n β → bX7_faultOf_25 N typed texts p (nI z) v comes coming came goes going wears worn = some (if p = 0 then tF0 n β else if p = 1 then tF1 n β else tF2 n β, nI (tC n β), fl coming (fun k => nI (β 0 k - 97)) (tC n β), M (cS n β), nI (tG n β), fl going (fun k => nI (β 1 k - 97)) (tG n β), nI (tW n β), fl worn (fun k => nI (β 2 k - 97)) (tW n β)) := by
    intro v hv z hz
    subst hv hz
    unfold bX7_faultOf_25
    have i0 : ((0 : Int32), coming, (0 : Int32)) = (fun k => (nI k, fl coming (fun k => nI (β 0 k - 97)) k, M (sn (β 0) k))) 0 := by
      simp only [fl]
      rw [show M (sn (β 0) 0) = 0 from M_none.symm]
      rfl
    rw [i0]
    refine lp_eq0 (tC n β) (fun k => (nI k, fl coming (fun k => nI (β 0 k - 97)) k, M (sn (β 0) k))) _ (by have := @tC_le n β; omega) (fun k hk κ => ?_) (fun κ => ?_)
    · have hle := @tC_le n β
      obtain ⟨e1, e2⟩ := hb0 k (by omega)
      obtain ⟨q1, q2⟩ := hl0 k hk
      unfold bX7_faultOf_35 nm
      simp only
      rw [if_neg (by rw [nI_leI (by omega) (by omega)]; omega), if_pos (chk_nI (by omega) (by omega)), if_pos (chk_nI (by omega) (by omega)), if_pos (chk_nI (by omega) (by omega)), nI_clamp (by omega), show texts k = nI (β 0 k) by have := e1; rwa [Nat.mul_zero, Nat.zero_add] at this, let_in q1 q2, pk_us, M_bit _ (by omega), M_or, nI_1]
      congr 3
    · unfold bX7_faultOf_35 bX7_faultOf_107
      simp only
      have hw : fX7_wrongLetter N typed texts 1 (M (sn (β 0) (tC n β))) = some (tF1 n β) := wrong_eq hN (t := 1) (by omega) h1 t1 hb1
      rw [if_pos (by rw [nI_leI (by have := @tC_le n β; omega) (by have := @tC_le n β; omega)]; omega), hw, Option.bind_some, cl1, t1]
      by_cases c : tF1 n β = -1
      · have e : tG n β = n 1 := by unfold tG; rw [if_pos c]
        rw [if_pos c, e]
        exact rd2 hN hT p _ _ _ _ _ _ (n 1) (Nat.le_refl _) (fun k hk => hl1 k (by rw [e]; exact hk))
      · have e : tG n β = 0 := by unfold tG; rw [if_neg c]
        rw [if_neg c, e]
        exact rd2 hN hT p _ _ _ _ _ _ 0 (by omega) (fun k hk => by omega)
  unfold fX7_faultOf
  rw [show (0 : Int32) = nI 0 from rfl, M_all, wrong_eq hN (by omega) h0 t0 hb0, Option.bind_some, nI_clamp (by omega), t0]
  show (if tF0 n β = -1 then _ else _) = _
  by_cases c : tF0 n β = -1
  · rw [if_pos c]
    exact main _ rfl _ (by unfold tC; rw [if_pos c])
  · rw [if_neg c]
    exact main _ rfl 0 (by unfold tC; rw [if_neg c])
theorem reads_eq (hN : 20 < N) (hT : TM n β typed texts) : fX7_reads N typed texts comes coming came goes going wears worn = some (nI (tC n β), fl coming (fun k => nI (β 0 k - 97)) (tC n β), M (cS n β), nI (tG n β), fl going (fun k => nI (β 1 k - 97)) (tG n β), nI (tW n β), fl worn (fun k => nI (β 2 k - 97)) (tW n β)) := by
  unfold fX7_reads
  rw [faultOf_eq hN hT]
  rfl
end RD

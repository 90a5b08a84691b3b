/-! 22: the model's rules -/
def em (x : Nat) : Nat := if x = 10 then 99 else x
theorem em_lt (x : Nat) (h : x ≤ 10) : em x < 100 := by unfold em; split <;> omega
theorem em_le {a b : Nat} (ha : a ≤ 10) (hb : b ≤ 10) : em a ≤ em b ↔ a ≤ b := by unfold em; split <;> split <;> omega
theorem em_t {a t : Nat} (ha : a ≤ 10) (ht : t < 10) : em a ≤ t ↔ a ≤ t := by unfold em; split <;> omega
theorem fw_min {mn : Nat → Nat} : ∀ {k j : Nat}, j < k → mn (fw mn k) ≤ mn j
  | 0, j, h => absurd h (Nat.not_lt_zero _)
  | k + 1, j, h => by
    rw [fw]
    by_cases c : mn (fw mn k) ≤ mn k
    · rw [if_pos c]
      by_cases w : j = k
      · subst w; exact c
      · exact fw_min (by omega)
    · rw [if_neg c]
      by_cases w : j = k
      · subst w; exact Nat.le_refl _
      · have := @fw_min mn k j (by omega)
        omega
theorem fw_first {mn : Nat → Nat} : ∀ {k v : Nat}, v < fw mn k → mn (fw mn k) < mn v
  | 0, v, h => absurd h (Nat.not_lt_zero _)
  | k + 1, v, h => by
    rw [fw] at h ⊢
    by_cases c : mn (fw mn k) ≤ mn k
    · rw [if_pos c] at h ⊢
      exact fw_first h
    · rw [if_neg c] at h ⊢
      have := @fw_min mn k v h
      omega
def alm (mn : Nat → Nat) (v : Nat) : Nat → Bool
  | 0 => true
  | j + 1 => alm mn v j && decide (mn v ≤ mn j)
theorem alm_iff {mn : Nat → Nat} {v : Nat} : ∀ {j : Nat}, alm mn v j = true ↔ ∀ i, i < j → mn v ≤ mn i
  | 0 => by simp [alm]
  | j + 1 => by
    rw [alm, Bool.and_eq_true, alm_iff, decide_eq_true_eq]
    constructor
    · rintro ⟨a, b⟩ i hi
      by_cases w : i = j
      · subst w; exact b
      · exact a i (by omega)
    · intro h
      exact ⟨fun i hi => h i (by omega), h j (by omega)⟩
theorem soonest_eq {N k t : Nat} {fr : Nat → Nat} {fg : Nat → Int32} (hN : 20 < N) (hk : k ≤ 10) (ht : t < 10) (hf : ∀ r, r < k → fg r = nI (em (fr r)) ∧ fr r ≤ 10) : fX7_soonest N fg (nI t) (nI k) = some (pI (so fr t k)) := by
  unfold fX7_soonest
  refine lp_eq0 k (fun r => (pI (so fr t r), nI r)) _ (by omega) (fun r hr κ => ?_) (fun κ => ?_)
  · obtain ⟨e1, e2⟩ := hf r (by omega)
    have l1 := em_lt (fr r) e2
    unfold bX7_soonest_5 bX7_soonest_27 bX7_soonest_61
    simp only
    rw [if_neg (by rw [nI_leI (by omega) (by omega)]; omega), if_pos (chk_nI (by omega) (by omega)), nI_clamp (by omega), e1, so, nI_1]
    by_cases c : fr r ≤ t
    · rw [if_pos (by rw [nI_leI (by omega) (by omega), em_t e2 ht]; exact c), if_pos c, if_pos trivial]
    · rw [if_neg (by rw [nI_leI (by omega) (by omega), em_t e2 ht]; exact c), if_neg c, if_neg (by decide)]
      cases q : so fr t r with
      | none => rfl
      | some b =>
        have hb := so_lt q
        obtain ⟨g1, g2⟩ := hf b (by omega)
        have l2 := em_lt (fr b) g2
        show (if nI b = -1 then _ else if chk (nI r) 10 = true then if chk (nI b) 10 = true then _ else none else none) = _
        rw [if_neg (m1_ne (by omega)), if_pos (chk_nI (by omega) (by omega)), if_pos (chk_nI (by omega) (by omega)), show Int32.toNatClampNeg (pI (some b)) = b from nI_clamp (by omega), g1]
        by_cases d : fr b ≤ fr r
        · rw [if_pos (by rw [nI_leI (by omega) (by omega), em_le g2 e2]; exact d)]
          simp only [d, if_true]
        · rw [if_neg (by rw [nI_leI (by omega) (by omega), em_le g2 e2]; exact d)]
          simp only [d, if_false]
          rfl
  · unfold bX7_soonest_5
    simp only
    rw [if_pos (by rw [nI_leI (by omega) (by omega)]; omega)]
section RD
variable {N ρ k i t : Nat} {fr mn cm : Nat → Nat} {coming manyIn whens fronts : Nat → Int32}
theorem ruled_last (hN : 20 < N) (hk : k ≤ 10) (hk1 : 1 ≤ k) (hf : ∀ r, r < 10 → fronts r = nI (em (fr r)) ∧ fr r ≤ 10) {p1 p2 : Int32} (o : Option Nat) (ho : ∀ b, o = some b → b < k) : bX7_ruled_131 N coming manyIn whens fronts p1 p2 (nI k) (pI o) = some (nI (o.getD (la fr k))) := by
  unfold bX7_ruled_131
  cases o with
  | some b =>
    have := ho b rfl
    show (if nI b = -1 then _ else _) = _
    rw [if_neg (m1_ne (by omega))]
    rfl
  | none =>
    show (if (-1 : Int32) = -1 then _ else _) = _
    rw [if_pos rfl]
    have i0 : ((0 : Int32), (1 : Int32)) = (fun r => (nI (la fr r), nI r)) 1 := by simp only [la, Nat.le_refl, if_true]; rfl
    rw [i0]
    refine lp_eq (b := bX7_ruled_146 N coming manyIn whens fronts p1 p2 (nI k)) k (fun r => (nI (la fr r), nI r)) _ (fun r hr κ => ?_) (fun κ => ?_) (k - 1) 1 N (by omega) (by omega)
    · obtain ⟨e1, e2⟩ := hf r (by omega)
      have hla := la_le fr r
      obtain ⟨f1, f2⟩ := hf (la fr r) (by omega)
      have l1 := em_lt _ e2
      have l2 := em_lt _ f2
      unfold bX7_ruled_146 bX7_ruled_176
      simp only
      rw [if_neg (by rw [nI_leI (by omega) (by omega)]; omega), if_pos (chk_nI (by omega) (by omega)), if_pos (chk_nI (by omega) (by omega)), nI_clamp (by omega), nI_clamp (by omega), e1, f1, nI_1, la]
      by_cases c : fr r ≤ fr (la fr r)
      · rw [if_pos (by rw [nI_leI (by omega) (by omega), em_le e2 f2]; exact c), if_pos c]
      · rw [if_neg (by rw [nI_leI (by omega) (by omega), em_le e2 f2]; exact c), if_neg c]
    · unfold bX7_ruled_146
      simp only
      rw [if_pos (by rw [nI_leI (by omega) (by omega)]; omega)]
      rfl
theorem ruled_few (hN : 20 < N) (hk : k ≤ 10) (hk1 : 1 ≤ k) (hm : ∀ r, r < 10 → manyIn r = nI (mn r) ∧ mn r ≤ 10) {v : Nat} (hv : v < k) {p2 : Int32} (κ : (Int32 × Int32) → Option Int32) : lp (bX7_ruled_70 N coming manyIn whens fronts 2 p2 (nI k) κ (-1) (nI v)) N (1, 0) = κ (if alm mn v k then nI v else -1, nI (v + 1)) := by
  refine lp_eq0 k (fun j => (if alm mn v j then (1 : Int32) else 0, nI j)) _ (by omega) (fun j hj κ' => ?_) (fun κ' => ?_)
  · obtain ⟨e1, e2⟩ := hm j (by omega)
    obtain ⟨f1, f2⟩ := hm v (by omega)
    unfold bX7_ruled_70 bX7_ruled_103
    simp only
    rw [if_neg (by rw [nI_leI (by omega) (by omega)]; omega), nI_1, alm]
    cases q : alm mn v j with
    | false => rfl
    | true =>
      rw [if_pos rfl, if_neg (by decide), if_pos (chk_nI (by omega) (by omega)), if_pos (chk_nI (by omega) (by omega)), nI_clamp (by omega), nI_clamp (by omega), e1, f1]
      by_cases c : mn v ≤ mn j
      · rw [if_neg (by rw [nI_ltI (by omega) (by omega)]; omega)]
        simp [c]
      · rw [if_pos (by rw [nI_ltI (by omega) (by omega)]; omega)]
        simp [c]
  · unfold bX7_ruled_70 bX7_ruled_123
    simp only
    rw [if_pos (by rw [nI_leI (by omega) (by omega)]; omega), nI_1]
    cases alm mn v k with
    | false => rfl
    | true => rfl
theorem ruled_eq (hN : 20 < N) (hk : k ≤ 10) (hk1 : 1 ≤ k) (hρ : ρ ≤ 3) (hi : i < 10) (ht : t < 10) (hc : coming i = nI (cm i)) (hcm : cm i < 10) (hw : whens (cm i) = nI t) (hf : ∀ r, r < 10 → fronts r = nI (em (fr r)) ∧ fr r ≤ 10) (hm : ∀ r, r < 10 → manyIn r = nI (mn r) ∧ mn r ≤ 10) : fX7_ruled N coming manyIn whens fronts (nI ρ) (nI i) (nI k) = some (nI (sel ρ k i t fr mn)) := by
  unfold fX7_ruled sel
  by_cases c0 : ρ = 0
  · subst c0
    rw [if_neg (by decide), if_pos (by decide)]
    rfl
  by_cases c1 : ρ = 1
  · subst c1
    rw [if_neg (by decide), if_neg (by decide), if_pos (show ¬ nI k = 0 by rw [li0, nI_eq (by omega) (by omega)]; omega), if_pos rfl, pk_rem (by omega) (by omega) (by omega)]
  rw [if_pos (show (2 : Int32) ≤ nI ρ by rw [li2, nI_leI (by omega) (by omega)]; omega), if_neg c1]
  by_cases c2 : ρ = 2
  · subst c2
    rw [if_neg (by decide), if_pos rfl]
    have hfw := fw_lt mn (k := k) (by omega)
    refine lp_eq0 (b := bX7_ruled_47 N coming manyIn whens fronts (nI 2) (nI i) (nI k)) (fw mn k + 1) (fun v => (if v ≤ fw mn k then (-1 : Int32) else nI (fw mn k), nI v)) _ (by omega) (fun v hv κ => ?_) (fun κ => ?_)
    · unfold bX7_ruled_47
      simp only
      rw [if_neg (by rw [nI_leI (by omega) (by omega)]; omega), if_pos (show v ≤ fw mn k by omega), if_pos rfl, if_pos (show nI 2 = (2 : Int32) from rfl)]
      refine (ruled_few hN hk hk1 hm (show v < k by omega) κ).trans ?_
      by_cases w : v = fw mn k
      · rw [if_pos (show alm mn v k = true by rw [alm_iff, w]; exact fun j hj => fw_min hj), if_neg (by omega), w]
      · rw [if_neg (show ¬ alm mn v k = true by
          rw [alm_iff]; intro h
          have := h _ hfw
          have := @fw_first mn k v (by omega)
          omega), if_pos (by omega)]
    · have hl := @ruled_last N k fr coming manyIn whens fronts hN hk hk1 hf (nI 2) (nI i) (some (fw mn k)) (fun b hb => by cases hb; exact hfw)
      unfold bX7_ruled_47
      simp only
      rw [if_neg (show ¬ fw mn k + 1 ≤ fw mn k by omega), if_neg (m1_ne (show fw mn k < 2 ^ 31 by omega))]
      have hl' : bX7_ruled_131 N coming manyIn whens fronts (nI 2) (nI i) (nI k) (nI (fw mn k)) = some (nI (fw mn k)) := hl
      rw [hl']
      split <;> rfl
  · have c3 : ρ = 3 := by omega
    subst c3
    rw [if_pos (show nI 3 = (3 : Int32) from rfl), if_neg (show ¬ (3 : Nat) = 2 by decide), if_pos (show (3 : Nat) = 3 from rfl), if_pos (chk_nI hi (by omega)), nI_clamp (by omega), hc, if_pos (chk_nI hcm (by omega)), nI_clamp (by omega), hw, soonest_eq hN hk ht (fun r hr => hf r (by omega)), Option.bind_some]
    have hl := @ruled_last N k fr coming manyIn whens fronts hN hk hk1 hf (nI 3) (nI i) (so fr t k) (fun b hb => so_lt hb)
    have hr : ∀ κ, bX7_ruled_47 N coming manyIn whens fronts (nI 3) (nI i) (nI k) κ (pI (so fr t k), 0) = some (nI (sr fr t k)) := by
      intro κ
      unfold bX7_ruled_47
      simp only
      rw [hl, if_neg (show ¬ nI 3 = (2 : Int32) by decide), ite_self, ite_self]
      unfold sr
      cases so fr t k <;> rfl
    obtain ⟨M', rfl⟩ : ∃ M', N = M' + 1 := ⟨N - 1, by omega⟩
    rw [lp_s, hr]
end RD

def ri (P : Nat → Nat → Bool) (i : Nat) : Nat → Nat
  | 0 => 0
  | j + 1 => ri P i j + (if decide (i < j) && P i j then 1 else 0)
def rw2 (P : Nat → Nat → Bool) (n : Nat) : Nat → Nat
  | 0 => 0
  | i + 1 => rw2 P n i + ri P i n
theorem ri_le {P : Nat → Nat → Bool} {i : Nat} : ∀ n, ri P i n ≤ n
  | 0 => Nat.le_refl _
  | n + 1 => by rw [ri]; have := @ri_le P i n; split <;> omega
theorem rw2_le {P : Nat → Nat → Bool} {n : Nat} : ∀ m, rw2 P n m ≤ n * m
  | 0 => by simp [rw2]
  | m + 1 => by rw [rw2, Nat.mul_succ]; have := @rw2_le P n m; have := @ri_le P m n; omega
theorem ri_0 {P : Nat → Nat → Bool} {i : Nat} : ∀ {n : Nat}, n ≤ i + 1 → ri P i n = 0
  | 0, _ => rfl
  | n + 1, h => by rw [ri, ri_0 (by omega), show decide (i < n) = false by simp; omega]; rfl
theorem rw2_s {P : Nat → Nat → Bool} {n : Nat} : ∀ m, rw2 P (n + 1) m = rw2 P n m + cnt (fun i => decide (i < n) && P i n) m
  | 0 => rfl
  | m + 1 => by rw [rw2, rw2, cnt, rw2_s m, ri]; omega
theorem cnt_up {S : Nat → Bool} {m : Nat} : ∀ {k : Nat}, m ≤ k → (∀ g, m ≤ g → S g = false) → cnt S k = cnt S m
  | 0, h, _ => by rw [show m = 0 by omega]
  | k + 1, h, hs => by
    by_cases c : m = k + 1
    · rw [c]
    · rw [cnt, hs k (by omega), cnt_up (by omega) hs]; rfl
theorem rw2_sl {ρ k : Nat} {ga : Nat → Nat} : ∀ {n : Nat}, n ≤ 10 → rw2 (fun i j => decide (ga i < ga j) && (rr ρ k ga i == rr ρ k ga j)) n n = sl ρ k ga n
  | 0, _ => rfl
  | n + 1, h => by
    rw [rw2_s, rw2, ri_0 (by omega), rw2_sl (by omega), sl, lc, Nat.add_zero]
    congr 1
    rw [cnt_up (S := fun j => decide (j < n) && (decide (ga j < ga n) && (rr ρ k ga j == rr ρ k ga n))) (m := n + 1) (k := 10) (by omega) (fun g hg => by simp; omega)]
theorem liftedBy_eq {N ρ k m : Nat} {ga cm : Nat → Nat} {coming whens laid : Nat → Int32} (hN : 20 < N) (hk1 : 1 ≤ k) (hk : k ≤ 10) (hm : m ≤ 10) (hg : ∀ i, i < m → coming i = nI (cm i) ∧ cm i < 10 ∧ whens (cm i) = nI (ga i) ∧ ga i < 10) (hl : CA m (rr ρ k ga) laid) : fX7_liftedBy N coming whens laid (nI m) = some (nI (sl ρ k ga m)) := by
  unfold fX7_liftedBy
  rw [← rw2_sl hm]
  generalize hP : (fun i j => decide (ga i < ga j) && (rr ρ k ga i == rr ρ k ga j)) = P
  refine lp_eq0 m (fun i => (nI (rw2 P m i), nI i)) _ (by omega) (fun i hi κ => ?_) (fun κ => ?_)
  · obtain ⟨a1, a2, a3, a4⟩ := hg i hi
    have r1 : rr ρ k ga i < k := rr_lt (by omega)
    unfold bX7_liftedBy_4
    simp only
    rw [if_neg (by rw [nI_leI (by omega) (by omega)]; omega), nI_1]
    have i0 : (nI (rw2 P m i), nI (i + 1)) = (fun d => (nI (rw2 P m i + ri P i (i + 1 + d)), nI (i + 1 + d))) 0 := by simp only; rw [ri_0 (Nat.le_refl _)]; rfl
    rw [i0]
    refine lp_eq0 (b := bX7_liftedBy_14 N coming whens laid (nI m) κ (nI i)) (m - (i + 1)) (fun d => (nI (rw2 P m i + ri P i (i + 1 + d)), nI (i + 1 + d))) _ (by omega) (fun d hd κ' => ?_) (fun κ' => ?_)
    · have hj : i + 1 + d < m := by omega
      have hij : i < i + 1 + d := by omega
      rw [show i + 1 + (d + 1) = (i + 1 + d) + 1 by omega]
      generalize i + 1 + d = j at hj hij
      obtain ⟨b1, b2, b3, b4⟩ := hg j hj
      have r2 : rr ρ k ga j < k := rr_lt (by omega)
      have e68 : ∀ x : Bool, x = P i j → bX7_liftedBy_68 N coming whens laid (nI m) (nI i) κ κ' (if x then 1 else 0) (nI (rw2 P m i + ri P i j)) (nI j) = κ' (nI (rw2 P m i + ri P i (j + 1)), nI (j + 1)) := by
        intro x hx
        unfold bX7_liftedBy_68
        rw [ri, ← hx, show decide (i < j) = true by simp; exact hij, nI_1]
        cases x
        · show κ' (nI (rw2 P m i + ri P i j) + nI 0, _) = _
          rw [nI_add]; rfl
        · show κ' (nI (rw2 P m i + ri P i j) + 1, _) = _
          rw [nI_1]; rfl
      unfold bX7_liftedBy_14
      simp only
      rw [if_neg (by rw [nI_leI (by omega) (by omega)]; omega), if_pos (chk_nI (show i < 10 by omega) (by omega)), if_pos (chk_nI (show j < 10 by omega) (by omega)), nI_clamp (show i < 2 ^ 31 by omega), nI_clamp (show j < 2 ^ 31 by omega), hl i (by omega), hl j hj, a1, b1, if_pos (chk_nI (show cm i < 10 by omega) (by omega)), if_pos (chk_nI (show cm j < 10 by omega) (by omega)), nI_clamp (show cm i < 2 ^ 31 by omega), nI_clamp (show cm j < 2 ^ 31 by omega), a3, b3]
      by_cases w : rr ρ k ga i = rr ρ k ga j
      · rw [if_pos (show nI (rr ρ k ga i) = nI (rr ρ k ga j) by rw [w]), if_pos (chk_nI (show i < 10 by omega) (by omega)), if_pos (chk_nI (show j < 10 by omega) (by omega))]
        by_cases v : ga j ≤ ga i
        · rw [if_pos (by rw [nI_leI (by omega) (by omega)]; exact v)]
          exact e68 false (by rw [← hP]; simp; omega)
        · rw [if_neg (by rw [nI_leI (by omega) (by omega)]; exact v)]
          exact e68 true (by rw [← hP]; simp [w]; omega)
      · rw [if_neg (by rw [nI_eq (by omega) (by omega)]; exact w)]
        exact e68 false (by rw [← hP]; simp [w])
    · unfold bX7_liftedBy_14
      simp only
      rw [show i + 1 + (m - (i + 1)) = m by omega, if_pos (by rw [nI_leI (by omega) (by omega)]; omega), nI_1]
      rfl
  · unfold bX7_liftedBy_4
    simp only
    rw [if_pos (by rw [nI_leI (by omega) (by omega)]; omega)]

theorem ruleBy_loop {N ρ k m : Nat} {ga cm : Nat → Nat} {typed texts coming going worn whens manyIn fronts laid : Nat → Int32} {comes came goes wears : Int32} (hN : 20 < N) (hρ : ρ ≤ 3) (hk1 : 1 ≤ k) (hk : k ≤ 10) (hm : m ≤ 10) (hg : ∀ i, i < m → coming i = nI (cm i) ∧ cm i < 10 ∧ whens (cm i) = nI (ga i) ∧ ga i < 10) :
    ∃ mi fn ld : Nat → Int32, lp (bX7_ruleBy_7 N typed texts (nI ρ) (nI k) (nI m) comes coming came goes going wears worn whens laid) N (0, manyIn, fronts) = some (nI (sl ρ k ga m), comes, coming, came, goes, going, wears, worn, mi, whens, fn, ld) ∧ CA m (rr ρ k ga) ld ∧ ∀ r, r < 10 → mi r = nI ((fr2 ρ k ga m).2 r) := by
  obtain ⟨z, hz, e⟩ := lp_for (b := bX7_ruleBy_7 N typed texts (nI ρ) (nI k) (nI m) comes coming came goes going wears worn whens laid) 10 (fun j s => ∃ a b : Nat → Int32, s = (nI j, a, b) ∧ ∀ r, r < j → a r = 0 ∧ b r = 99) (fun z => ∃ mi fn ld : Nat → Int32, z = some (nI (sl ρ k ga m), comes, coming, came, goes, going, wears, worn, mi, whens, fn, ld) ∧ CA m (rr ρ k ga) ld ∧ ∀ r, r < 10 → mi r = nI ((fr2 ρ k ga m).2 r))
    (fun j s hj hp => by
      obtain ⟨a, b, rfl, h1⟩ := hp
      left
      refine ⟨(nI (j + 1), upd a j 0, upd b j 99), ⟨_, _, rfl, fun r hr => ?_⟩, fun κ => ?_⟩
      · unfold upd
        by_cases w : r = j
        · rw [if_pos w, if_pos w]; exact ⟨rfl, rfl⟩
        · rw [if_neg w, if_neg w]; exact h1 r (by omega)
      · unfold bX7_ruleBy_7
        simp only
        rw [if_neg (by rw [li10, nI_leI (by omega) (by omega)]; omega), if_pos (chk_nI (by omega) (by omega)), if_pos (chk_nI (by omega) (by omega)), nI_clamp (by omega), nI_1])
    (fun s hp => by
      obtain ⟨a, b, rfl, h1⟩ := hp
      obtain ⟨z, hz, e⟩ := lp_for (b := bX7_ruleBy_40 N typed texts (nI ρ) (nI k) (nI m) comes coming came goes going wears worn whens) m (fun i s => ∃ a b ld : Nat → Int32, s = (nI i, a, b, ld) ∧ CA i (rr ρ k ga) ld ∧ (∀ r, r < 10 → a r = nI ((fr2 ρ k ga i).2 r)) ∧ ∀ r, r < 10 → b r = nI (em ((fr2 ρ k ga i).1 r))) (fun z => ∃ mi fn ld : Nat → Int32, z = some (nI (sl ρ k ga m), comes, coming, came, goes, going, wears, worn, mi, whens, fn, ld) ∧ CA m (rr ρ k ga) ld ∧ ∀ r, r < 10 → mi r = nI ((fr2 ρ k ga m).2 r))
        (fun i s hi hp => by
          obtain ⟨a, b, ld, rfl, h1, h2, h3⟩ := hp
          obtain ⟨g1, g2, g3, g4⟩ := hg i hi
          have hrr : rr ρ k ga i < k := rr_lt (by omega)
          left
          refine ⟨(nI (i + 1), upd a (rr ρ k ga i) (nI ((fr2 ρ k ga i).2 (rr ρ k ga i) + 1)), upd b (rr ρ k ga i) (nI (ga i)), upd ld i (nI (rr ρ k ga i))), ⟨_, _, _, rfl, fun j hj => ?_, fun r hr => ?_, fun r hr => ?_⟩, fun κ => ?_⟩
          · unfold upd
            by_cases w : j = i
            · rw [if_pos w, w]
            · rw [if_neg w]; exact h1 j (by omega)
          · unfold upd
            show _ = nI (if r = rr ρ k ga i then (fr2 ρ k ga i).2 r + 1 else (fr2 ρ k ga i).2 r)
            by_cases w : r = rr ρ k ga i
            · rw [if_pos w, if_pos w, w]
            · rw [if_neg w, if_neg w]; exact h2 r hr
          · unfold upd
            show _ = nI (em (if r = rr ρ k ga i then ga i else (fr2 ρ k ga i).1 r))
            by_cases w : r = rr ρ k ga i
            · rw [if_pos w, if_pos w]; unfold em; rw [if_neg (by omega)]
            · rw [if_neg w, if_neg w]; exact h3 r hr
          · have hmn : ∀ r, (fr2 ρ k ga i).2 r ≤ 10 := fun r => by rw [← mn_eq (ρ := ρ) (k := k) (ga := ga) (by omega) r]; exact cnt_le _ _
            unfold bX7_ruleBy_40
            simp only
            rw [if_neg (by rw [nI_leI (by omega) (by omega)]; omega), ruled_eq (cm := cm) (t := ga i) (fr := (fr2 ρ k ga i).1) (mn := (fr2 ρ k ga i).2) hN hk hk1 hρ (by omega) g4 g1 g2 g3 (fun r hr => ⟨h3 r hr, fr_le (m := m) (fun j hj => (hg j hj).2.2.2) (by omega) r⟩) (fun r hr => ⟨h2 r hr, hmn r⟩), Option.bind_some]
            show (if chk (nI i) 10 = true then if chk (nI (rr ρ k ga i)) 10 = true then if chk (nI (rr ρ k ga i)) 10 = true then if chk (nI i) 10 = true then _ else none else none else none else none) = _
            rw [if_pos (chk_nI (show i < 10 by omega) (by omega)), if_pos (chk_nI (show rr ρ k ga i < 10 by omega) (by omega)), if_pos (chk_nI (show rr ρ k ga i < 10 by omega) (by omega)), if_pos (chk_nI (show i < 10 by omega) (by omega)), nI_clamp (show i < 2 ^ 31 by omega), g1, if_pos (chk_nI g2 (by omega)), nI_clamp (show cm i < 2 ^ 31 by omega), g3]
            unfold nm
            simp only
            rw [show nI (sel ρ k i (ga i) (fr2 ρ k ga i).1 (fr2 ρ k ga i).2) = nI (rr ρ k ga i) from rfl, if_pos (chk_nI (show rr ρ k ga i < 10 by omega) (by omega)), nI_clamp (show rr ρ k ga i < 2 ^ 31 by omega), h2 _ (by omega), nI_1, nI_1])
        (fun s hp => by
          obtain ⟨a, b, ld, rfl, h1, h2, h3⟩ := hp
          refine ⟨_, ⟨a, b, ld, rfl, h1, h2⟩, fun κ => ?_⟩
          unfold bX7_ruleBy_40
          simp only
          rw [if_pos (by rw [nI_leI (by omega) (by omega)]; omega), liftedBy_eq hN hk1 hk hm hg h1, Option.bind_some])
        (k := 0) (s := (0, a, b, laid)) (N := N) (by omega) ⟨a, b, laid, rfl, fun j hj => by omega, fun r hr => (h1 r hr).1, fun r hr => (h1 r hr).2⟩ (by omega)
      refine ⟨z, hz, fun κ => ?_⟩
      unfold bX7_ruleBy_7
      simp only
      rw [if_pos (by rw [li10, nI_leI (by omega) (by omega)]; omega)]
      exact e)
    (k := 0) (s := (0, manyIn, fronts)) (N := N) (by omega) ⟨_, _, rfl, fun r hr => by omega⟩ (by omega)
  obtain ⟨mi, fn, ld, h1, h2, h3⟩ := hz
  exact ⟨mi, fn, ld, by rw [e, h1], h2, h3⟩

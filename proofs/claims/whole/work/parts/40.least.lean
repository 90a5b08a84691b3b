/-! ===== least: model, queries; gap ===== -/
theorem rw2_csx {ga x : Nat → Nat} : ∀ {n : Nat}, n ≤ 10 → rw2 (fun i j => decide (ga i < ga j) && (x i == x j)) n n = csx ga x n
  | 0, _ => rfl
  | n + 1, h => by
    rw [rw2_s, rw2, ri_0 (by omega), rw2_csx (by omega), csx, lcx, Nat.add_zero]
    congr 1
    rw [cnt_up (S := fun j => decide (j < n) && (decide (ga j < ga n) && (x j == x n))) (m := n + 1) (k := 10) (by omega) (fun g hg => by simp; omega)]
theorem liftedBy_gen {N m : Nat} {ga cm x : Nat → Nat} {coming whens laid : Nat → Int32} (hN : 20 < N) (hm : m ≤ 10) (hx : ∀ i, i < m → x i < 10) (hg : ∀ i, i < m → coming i = nI (cm i) ∧ cm i < 10 ∧ whens (cm i) = nI (ga i) ∧ ga i < 10) (hl : CA m x laid) : fX7_liftedBy N coming whens laid (nI m) = some (nI (csx ga x m)) := by
  unfold fX7_liftedBy
  rw [← rw2_csx hm]
  generalize hP : (fun i j => decide (ga i < ga j) && (x i == x j)) = P
  refine lp_eq0 m (fun i => (nI (rw2 P m i), nI i)) _ (by omega) (fun i hi κ => ?_) (fun κ => ?_)
  · obtain ⟨a1, a2, a3, a4⟩ := hg i hi
    have r1 := hx i hi
    unfold bX7_liftedBy_4
    simp only
    rw [if_neg (by rw [nI_leI (by omega) (by omega)]; omega), nI_1]
    have i0 : (nI (rw2 P m i), nI (i + 1)) = (fun d => (nI (rw2 P m i + ri P i (i + 1 + d)), nI (i + 1 + d))) 0 := by simp only; rw [ri_0 (Nat.le_refl _)]; rfl
    rw [i0]
    refine lp_eq0 (b := bX7_liftedBy_14 N coming whens laid (nI m) κ (nI i)) (m - (i + 1)) (fun d => (nI (rw2 P m i + ri P i (i + 1 + d)), nI (i + 1 + d))) _ (by omega) (fun d hd κ' => ?_) (fun κ' => ?_)
    · have hj : i + 1 + d < m := by omega
      have hij : i < i + 1 + d := by omega
      rw [show i + 1 + (d + 1) = (i + 1 + d) + 1 by omega]
      generalize i + 1 + d = j at hj hij
      obtain ⟨b1, b2, b3, b4⟩ := hg j hj
      have r2 := hx j hj
      have e68 : ∀ x : Bool, x = P i j → bX7_liftedBy_68 N coming whens laid (nI m) (nI i) κ κ' (if x then 1 else 0) (nI (rw2 P m i + ri P i j)) (nI j) = κ' (nI (rw2 P m i + ri P i (j + 1)), nI (j + 1)) := by
        intro x hx
        unfold bX7_liftedBy_68
        rw [ri, ← hx, show decide (i < j) = true by simp; exact hij, nI_1]
        cases x
        · show κ' (nI (rw2 P m i + ri P i j) + nI 0, _) = _
          rw [nI_add]; rfl
        · show κ' (nI (rw2 P m i + ri P i j) + 1, _) = _
          rw [nI_1]; rfl
      unfold bX7_liftedBy_14
      simp only
      rw [if_neg (by rw [nI_leI (by omega) (by omega)]; omega), if_pos (chk_nI (show i < 10 by omega) (by omega)), if_pos (chk_nI (show j < 10 by omega) (by omega)), nI_clamp (show i < 2 ^ 31 by omega), nI_clamp (show j < 2 ^ 31 by omega), hl i (by omega), hl j hj, a1, b1, if_pos (chk_nI (show cm i < 10 by omega) (by omega)), if_pos (chk_nI (show cm j < 10 by omega) (by omega)), nI_clamp (show cm i < 2 ^ 31 by omega), nI_clamp (show cm j < 2 ^ 31 by omega), a3, b3]
      by_cases w : x i = x j
      · rw [if_pos (show nI (x i) = nI (x j) by rw [w]), if_pos (chk_nI (show i < 10 by omega) (by omega)), if_pos (chk_nI (show j < 10 by omega) (by omega))]
        by_cases v : ga j ≤ ga i
        · rw [if_pos (by rw [nI_leI (by omega) (by omega)]; exact v)]
          exact e68 false (by rw [← hP]; simp; omega)
        · rw [if_neg (by rw [nI_leI (by omega) (by omega)]; exact v)]
          exact e68 true (by rw [← hP]; simp [w]; omega)
      · rw [if_neg (by rw [nI_eq (by omega) (by omega)]; exact w)]
        exact e68 false (by rw [← hP]; simp [w])
    · unfold bX7_liftedBy_14
      simp only
      rw [show i + 1 + (m - (i + 1)) = m by omega, if_pos (by rw [nI_leI (by omega) (by omega)]; omega), nI_1]
      rfl
  · unfold bX7_liftedBy_4
    simp only
    rw [if_pos (by rw [nI_leI (by omega) (by omega)]; omega)]

theorem kpow {k j : Nat} (hk : k ≤ 3) (hj : j ≤ 7) : k ^ j ≤ 2187 := Nat.le_trans (Nat.pow_le_pow_left hk j) (Nat.le_trans (Nat.pow_le_pow_right (by decide) hj) (by decide))
theorem divs (c k d : Nat) : c / k ^ d / k = c / k ^ (d + 1) := by rw [Nat.div_div_eq_div_mul, Nat.pow_succ]
def lsA (ga : Nat → Nat) (k m : Nat) (q : Int32) : Int32 := if q = -1 then nI (csx ga (dgt k m (bcode ga k m)) m) else if Int32.toNatClampNeg q < m then nI (dgt k m (bcode ga k m) (Int32.toNatClampNeg q)) else -1
section LM
variable {N k m : Nat} {ga cm : Nat → Nat} {typed texts coming going worn w : Nat → Int32} {comes came goes wears q : Int32}
theorem leastOf_end (hN : 2200 < N) (hk1 : 1 ≤ k) (hk : k ≤ 3) (hm : m ≤ 7) (hq : q = -1 ∨ (0 ≤ q ∧ q ≤ 6)) (ld : Nat → Int32) {v4 : Int32} : ∃ R, (if q = (-1 : Int32) then bX7_leastOf_153 N typed texts (nI k) q (nI (csx ga (dgt k m (bcode ga k m)) m)) comes coming came goes going wears worn w ld else (if q < nI m then lp (bX7_leastOf_170 N typed texts (nI k) q comes coming came goes going wears worn w ld) N (nI (bcode ga k m), (nI m - (1 : Int32))) else bX7_leastOf_153 N typed texts (nI k) q (nI (csx ga (dgt k m (bcode ga k m)) m)) comes coming came goes going wears worn w ld)) = some R ∧ R.1 = lsA ga k m q ∧ R.2.1 = comes := by
  have hb := bcode_lt ga k m (by omega)
  have hp := kpow (j := m) hk hm
  unfold lsA
  by_cases h : q = -1
  · unfold bX7_leastOf_153
    rw [if_pos h, if_pos h, if_pos h]
    exact ⟨_, rfl, rfl, rfl⟩
  · have h3 : 0 ≤ q ∧ q ≤ 6 := by rcases hq with z | z; exact absurd z h; exact z
    rw [if_neg h, if_neg h]
    obtain ⟨g, q1, rfl⟩ := ncase (m := 6) (by decide) h3
    rw [nI_clamp (by omega)]
    by_cases c : g < m
    · rw [if_pos (by rw [nI_ltI (by omega) (by omega)]; exact c), if_pos c]
      obtain ⟨z, hz, e⟩ := lp_for (b := bX7_leastOf_170 N typed texts (nI k) (nI g) comes coming came goes going wears worn w ld) (m - 1 - g) (fun d s => s = (nI (bcode ga k m / k ^ d), nI (m - 1 - d))) (fun z => ∃ R, z = some R ∧ R.1 = nI (dgt k m (bcode ga k m) g) ∧ R.2.1 = comes)
        (fun d s hd hp2 => by
          subst hp2
          left
          refine ⟨_, rfl, fun κ => ?_⟩
          have hle : bcode ga k m / k ^ d ≤ bcode ga k m := Nat.div_le_self _ _
          unfold bX7_leastOf_170
          simp only
          rw [if_neg (by rw [nI_leI (by omega) (by omega)]; omega), if_pos (nI_ne0 (by omega) (by omega)), pk_div (by omega) (by omega) (by omega), divs, show m - 1 - d = m - 1 - (d + 1) + 1 by omega, pk_m1])
        (fun s hp2 => by
          subst hp2
          have hle : bcode ga k m / k ^ (m - 1 - g) ≤ bcode ga k m := Nat.div_le_self _ _
          refine ⟨some (nI (dgt k m (bcode ga k m) g), comes, coming, came, goes, going, wears, worn, w, ld), ⟨_, rfl, rfl, rfl⟩, fun κ => ?_⟩
          unfold bX7_leastOf_170
          simp only
          rw [if_pos (by rw [nI_leI (by omega) (by omega)]; omega), if_pos (nI_ne0 (by omega) (by omega)), pk_rem (by omega) (by omega) (by omega)]
          rfl)
        (k := 0) (s := (nI (bcode ga k m), nI m - 1)) (N := N) (by omega) (by rw [nI_pd (by omega), Nat.pow_zero, Nat.div_one]; rfl) (by omega)
      obtain ⟨R, e2, e3⟩ := hz
      exact ⟨R, by rw [e, e2], e3⟩
    · unfold bX7_leastOf_153
      rw [if_neg (by rw [nI_ltI (by omega) (by omega)]; exact c), if_neg c, if_neg h]
      exact ⟨_, rfl, rfl, rfl⟩
def bsI (f : Nat → Nat) (c : Nat) : Int32 := if c = 0 then -1 else nI (f (fw f c))
theorem leastOf_code (hN : 2200 < N) (hk1 : 1 ≤ k) (hk : k ≤ 3) (hm : m ≤ 7) (hg : ∀ i, i < m → coming i = nI (cm i) ∧ cm i < 10 ∧ w (cm i) = nI (ga i) ∧ ga i < 10) {c : Nat} (hc : c < k ^ m) (ld : Nat → Int32) {v4 : Int32} : ∃ ld' : Nat → Int32, ∀ κ, lp (bX7_leastOf_58 N typed texts (nI k) q (nI m) v4 comes coming came goes going wears worn w κ (bsI (fun c => csx ga (dgt k m c) m) c) (nI (fw (fun c => csx ga (dgt k m c) m) c)) (nI c)) N (nI c, dn m 0, ld) = κ (bsI (fun c => csx ga (dgt k m c) m) (c + 1), nI (fw (fun c => csx ga (dgt k m c) m) (c + 1)), nI (c + 1), ld') := by
  have hp := kpow (j := m) hk hm
  -- the digits
  have ex : ∃ f : Nat → Nat → Int32, f 0 = ld ∧ ∀ d, d < m → f (d + 1) = upd (f d) (m - 1 - d) (nI (dgt k m c (m - 1 - d))) := by
    refine ⟨fun d => Nat.rec ld (fun d f => upd f (m - 1 - d) (nI (dgt k m c (m - 1 - d)))) d, rfl, fun d _ => rfl⟩
  obtain ⟨f, f0, fs⟩ := ex
  have fd : ∀ d, d ≤ m → ∀ i, m - d ≤ i → i < m → f d i = nI (dgt k m c i) := by
    intro d
    induction d with
    | zero => intro _ i h1 h2; omega
    | succ d ih =>
      intro hd i h1 h2
      rw [fs d (by omega)]
      unfold upd
      by_cases z : i = m - 1 - d
      · rw [if_pos z, z]
      · rw [if_neg z]; exact ih (by omega) i (by omega) h2
  refine ⟨f m, fun κ => ?_⟩
  rw [← f0]
  have st : (nI c, dn m 0, f 0) = (fun d => (nI (c / k ^ d), dn m d, f d)) 0 := by simp
  rw [st]
  refine lp_eq0 (b := bX7_leastOf_58 N typed texts (nI k) q (nI m) v4 comes coming came goes going wears worn w κ (bsI (fun c => csx ga (dgt k m c) m) c) (nI (fw (fun c => csx ga (dgt k m c) m) c)) (nI c)) m (fun d => (nI (c / k ^ d), dn m d, f d)) _ (by omega) (fun d hd κ2 => ?_) (fun κ2 => ?_)
  · have hle : c / k ^ d ≤ c := Nat.div_le_self _ _
    unfold bX7_leastOf_58
    simp only
    rw [← dn_s hd, dn_in hd, if_neg (nI_pos (by omega)), if_pos (nI_ne0 (by omega) (by omega)), if_pos (chk_nI (by omega) (by omega)), if_pos (nI_ne0 (by omega) (by omega)), pk_rem (by omega) (by omega) (by omega), pk_div (by omega) (by omega) (by omega), divs, nI_clamp (by omega), fs d hd, dgt, show m - 1 - (m - 1 - d) = d by omega]
  · have hcs : ∀ c, csx ga (dgt k m c) m ≤ 70 := fun c => by have := csx_le ga (dgt k m c) m; omega
    have hlb := liftedBy_gen (N := N) (m := m) (ga := ga) (cm := cm) (x := dgt k m c) (coming := coming) (whens := w) (laid := f m) (by omega) (by omega) (fun i _ => by have := dgt_lt (m := m) (c := c) (i := i) (show 0 < k by omega); omega) hg (fun i hi => fd m (Nat.le_refl _) i (by omega) hi)
    unfold bX7_leastOf_58
    simp only
    rw [dn_e, if_pos m1_lt, hlb, Option.bind_some]
    unfold bX7_leastOf_113 bX7_leastOf_135
    rw [nI_1]
    generalize hF : (fun c => csx ga (dgt k m c) m) = F
    have hFc : ∀ c, csx ga (dgt k m c) m = F c := fun c => by rw [← hF]
    have hF70 : ∀ c, F c ≤ 70 := fun c => by rw [← hFc]; exact hcs c
    rw [hFc c]
    by_cases z : c = 0
    · subst z
      have e0 : fw F (0 + 1) = 0 := by rw [fw]; split <;> rfl
      rw [show bsI F 0 = -1 from rfl, if_pos rfl, if_pos rfl, e0]
      unfold bsI
      rw [if_neg (by omega), e0]
    · have hb : bsI F c = nI (F (fw F c)) := if_neg z
      have hb1 : bsI F (c + 1) = nI (F (fw F (c + 1))) := if_neg (by omega)
      have q1 := hF70 (fw F c)
      have q2 := hF70 c
      rw [hb, hb1, if_neg (m1_ne (by omega)), if_neg (m1_ne (by omega)), if_neg (m1_ne (by omega)), fw]
      by_cases y : F (fw F c) ≤ F c
      · rw [if_pos (show nI _ ≤ nI _ by rw [nI_leI (by omega) (by omega)]; exact y), if_pos (show nI _ ≤ nI _ by rw [nI_leI (by omega) (by omega)]; exact y), if_pos y]
      · rw [if_neg (show ¬ nI _ ≤ nI _ by rw [nI_leI (by omega) (by omega)]; exact y), if_neg (show ¬ nI _ ≤ nI _ by rw [nI_leI (by omega) (by omega)]; exact y), if_neg y]
theorem leastOf_loop (hN : 2200 < N) (hk1 : 1 ≤ k) (hk : k ≤ 3) (hm : m ≤ 7) (hg : ∀ i, i < m → coming i = nI (cm i) ∧ cm i < 10 ∧ w (cm i) = nI (ga i) ∧ ga i < 10) (hq : q = -1 ∨ (0 ≤ q ∧ q ≤ 6)) (ld : Nat → Int32) : ∃ R, lp (bX7_leastOf_15 N typed texts (nI k) q (nI m) comes coming came goes going wears worn w ld) N (1, 0) = some R ∧ R.1 = lsA ga k m q ∧ R.2.1 = comes := by
  have hp := kpow (j := m) hk hm
  have hpos : 0 < k ^ m := Nat.pow_pos (by omega)
  obtain ⟨z, hz, e⟩ := lp_for (b := bX7_leastOf_42 N typed texts (nI k) q (nI m) (nI (k ^ m)) comes coming came goes going wears worn w) (k ^ m) (fun c s => ∃ ld' : Nat → Int32, s = (bsI (fun c => csx ga (dgt k m c) m) c, nI (fw (fun c => csx ga (dgt k m c) m) c), nI c, ld')) (fun z => ∃ R, z = some R ∧ R.1 = lsA ga k m q ∧ R.2.1 = comes)
    (fun c s hc hp2 => by
      obtain ⟨ld', rfl⟩ := hp2
      left
      obtain ⟨ld2, e2⟩ := leastOf_code (N := N) (k := k) (m := m) (ga := ga) (cm := cm) (typed := typed) (texts := texts) (coming := coming) (going := going) (worn := worn) (w := w) (comes := comes) (came := came) (goes := goes) (wears := wears) (q := q) hN hk1 hk hm hg hc ld' (v4 := nI (k ^ m))
      refine ⟨_, ⟨ld2, rfl⟩, fun κ => ?_⟩
      unfold bX7_leastOf_42
      simp only
      rw [if_neg (by rw [nI_leI (by omega) (by omega)]; omega), dn_0, e2])
    (fun s hp2 => by
      obtain ⟨ld', rfl⟩ := hp2
      obtain ⟨R, e1, e2⟩ := leastOf_end (N := N) (k := k) (m := m) (ga := ga) (typed := typed) (texts := texts) (coming := coming) (going := going) (worn := worn) (w := w) (comes := comes) (came := came) (goes := goes) (wears := wears) (q := q) hN hk1 hk hm hq ld' (v4 := 0)
      refine ⟨some R, ⟨R, rfl, e2⟩, fun κ => ?_⟩
      unfold bX7_leastOf_42
      simp only
      rw [if_pos (by rw [nI_leI (by omega) (by omega)]; omega), show bsI (fun c => csx ga (dgt k m c) m) (k ^ m) = nI (csx ga (dgt k m (bcode ga k m)) m) from if_neg (by omega)]
      exact e1)
    (k := 0) (s := (-1, 0, 0, ld)) (N := N) (by omega) ⟨ld, rfl⟩ (by omega)
  obtain ⟨R, a1, a2⟩ := hz
  refine ⟨R, ?_, a2⟩
  have st : ((1 : Int32), (0 : Int32)) = (fun j => (nI (k ^ j), nI j)) 0 := rfl
  rw [st]
  refine lp_eq0 (b := bX7_leastOf_15 N typed texts (nI k) q (nI m) comes coming came goes going wears worn w ld) m (fun j => (nI (k ^ j), nI j)) _ (by omega) (fun j hj κ => ?_) (fun κ => ?_)
  · unfold bX7_leastOf_15
    simp only
    rw [if_neg (by rw [nI_leI (by omega) (by omega)]; omega), pk_mul, nI_1, Nat.pow_succ]
  · unfold bX7_leastOf_15
    simp only
    rw [if_pos (by rw [nI_leI (by omega) (by omega)]; omega), e, a1]
end LM

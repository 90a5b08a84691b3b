/-! ===== rules of laying (the class) ===== -/
def so (fr : Nat → Nat) (t : Nat) : Nat → Option Nat
  | 0 => none
  | r + 1 => if fr r ≤ t then so fr t r else match so fr t r with
    | none => some r
    | some b => if fr b ≤ fr r then some b else some r
def la (fr : Nat → Nat) : Nat → Nat
  | 0 => 0
  | r + 1 => if fr r ≤ fr (la fr r) then la fr r else r
def fw (mn : Nat → Nat) : Nat → Nat
  | 0 => 0
  | r + 1 => if mn (fw mn r) ≤ mn r then fw mn r else r
def sr (fr : Nat → Nat) (t k : Nat) : Nat := match so fr t k with
  | some b => b
  | none => la fr k
theorem so_lt {fr : Nat → Nat} {t : Nat} : ∀ {k b : Nat}, so fr t k = some b → b < k
  | 0, b, h => by cases h
  | k + 1, b, h => by
    rw [so] at h
    by_cases c : fr k ≤ t
    · rw [if_pos c] at h; have := so_lt h; omega
    · rw [if_neg c] at h
      cases q : so fr t k with
      | none => rw [q] at h; cases h; omega
      | some x =>
        rw [q] at h
        have hx := so_lt q
        by_cases d : fr x ≤ fr k
        · simp only [d, if_true] at h; cases h; omega
        · simp only [d, if_false] at h; cases h; omega
theorem la_le (fr : Nat → Nat) : ∀ k, la fr k ≤ k
  | 0 => Nat.le_refl 0
  | k + 1 => by rw [la]; have := la_le fr k; split <;> omega
theorem la_lt (fr : Nat → Nat) {k : Nat} (h : 0 < k) : la fr k < k := by
  obtain ⟨m, rfl⟩ : ∃ m, k = m + 1 := ⟨k - 1, by omega⟩
  rw [la]; have := la_le fr m; split <;> omega
theorem fw_le (fr : Nat → Nat) : ∀ k, fw fr k ≤ k
  | 0 => Nat.le_refl 0
  | k + 1 => by rw [fw]; have := fw_le fr k; split <;> omega
theorem fw_lt (fr : Nat → Nat) {k : Nat} (h : 0 < k) : fw fr k < k := by
  obtain ⟨m, rfl⟩ : ∃ m, k = m + 1 := ⟨k - 1, by omega⟩
  rw [fw]; have := fw_le fr m; split <;> omega
theorem sr_lt (fr : Nat → Nat) (t : Nat) {k : Nat} (h : 0 < k) : sr fr t k < k := by
  unfold sr
  cases q : so fr t k with
  | none => exact la_lt fr h
  | some b => exact so_lt q
theorem going_eq {N k t : Nat} {fr : Nat → Nat} {fg : Nat → Int32} (hN : 20 < N) (hk : k ≤ 10) (ht : t < 10) (hf : ∀ r, r < 10 → fg r = nI (fr r) ∧ fr r ≤ 10) : fX0_rowGoingSoonest N fg (nI k) (nI t) = some (nI (sr fr t k)) := by
  unfold fX0_rowGoingSoonest
  refine lp_eq0 k (fun r => (pI (so fr t r), nI (la fr r), nI r)) _ (by omega) (fun r hr κ => ?_) (fun κ => ?_)
  · obtain ⟨e1, e2⟩ := hf r (by omega)
    have hla := la_le fr r
    obtain ⟨f1, f2⟩ := hf (la fr r) (by omega)
    have e48 : ∀ x : Int32, bX0_rowGoingSoonest_48 N fg (nI k) (nI t) κ x (nI (la fr r)) (nI r) (nI (fr r)) = κ (x, nI (la fr (r + 1)), nI (r + 1)) := by
      intro x
      unfold bX0_rowGoingSoonest_48 bX0_rowGoingSoonest_64
      rw [if_pos (chk_nI (by omega) (by omega)), nI_clamp (by omega), f1, nI_1, la]
      by_cases c : fr r ≤ fr (la fr r)
      · rw [if_pos (by rw [nI_leI (by omega) (by omega)]; exact c), if_pos c]
      · rw [if_neg (by rw [nI_leI (by omega) (by omega)]; exact c), if_neg c]
    unfold bX0_rowGoingSoonest_8
    simp only
    rw [if_neg (by rw [nI_leI (by omega) (by omega)]; omega), if_pos (chk_nI (by omega) (by omega)), nI_clamp (by omega), e1, e48, e48, so]
    by_cases c : fr r ≤ t
    · rw [if_pos (by rw [nI_leI (by omega) (by omega)]; exact c), if_pos c]
    · rw [if_neg (by rw [nI_leI (by omega) (by omega)]; exact c), if_neg c]
      cases q : so fr t r with
      | none => rfl
      | some b =>
        have hb := so_lt q
        obtain ⟨g1, g2⟩ := hf b (by omega)
        show (if nI b = -1 then _ else if chk (nI b) 10 = true then _ else none) = _
        rw [if_neg (m1_ne (by omega)), if_pos (chk_nI (by omega) (by omega)), show Int32.toNatClampNeg (pI (some b)) = b from nI_clamp (by omega), g1]
        by_cases d : fr b ≤ fr r
        · rw [if_pos (by rw [nI_leI (by omega) (by omega)]; exact d)]
          simp only [d, if_true]
        · rw [if_neg (by rw [nI_leI (by omega) (by omega)]; exact d)]
          simp only [d, if_false]
          rfl
  · unfold bX0_rowGoingSoonest_8 sr
    simp only
    rw [if_pos (by rw [nI_leI (by omega) (by omega)]; omega)]
    cases q : so fr t k with
    | none => rfl
    | some b =>
      have hb := so_lt q
      show (if nI b = -1 then _ else _) = _
      rw [if_neg (m1_ne (by omega))]
      rfl
theorem fewest_eq {N k : Nat} {mn : Nat → Nat} {S : Nat → Nat → Bool} {ir : Nat → Int32} (hN : 20 < N) (hk : k ≤ 10) (hk1 : 1 ≤ k) (hf : ∀ r, r < 10 → ir r = M (S r) ∧ cnt (S r) 10 = mn r) : fX0_rowWithFewest N ir (nI k) = some (nI (fw mn k)) := by
  unfold fX0_rowWithFewest
  have i0 : ((0 : Int32), (1 : Int32)) = (fun r => (nI (fw mn r), nI r)) 1 := by simp only [fw, Nat.le_refl, if_true]; rfl
  rw [i0]
  refine lp_eq (b := bX0_rowWithFewest_4 N ir (nI k)) k (fun r => (nI (fw mn r), nI r)) _ (fun r hr κ => ?_) (fun κ => ?_) (k - 1) 1 N (by omega) (by omega)
  · obtain ⟨e1, e2⟩ := hf r (by omega)
    have hla := fw_le mn r
    obtain ⟨f1, f2⟩ := hf (fw mn r) (by omega)
    have c1 := cnt_le (S r) 10
    have c2 := cnt_le (S (fw mn r)) 10
    unfold bX0_rowWithFewest_4 bX0_rowWithFewest_32
    simp only
    rw [if_neg (by rw [nI_leI (by omega) (by omega)]; omega), if_pos (chk_nI (by omega) (by omega)), nI_clamp (by omega), e1, bitCount_M, Option.bind_some, if_pos (chk_nI (by omega) (by omega)), nI_clamp (by omega), f1, bitCount_M, Option.bind_some, e2, f2, nI_1, fw]
    by_cases c : mn (fw mn r) ≤ mn r
    · rw [if_pos (by rw [nI_leI (by omega) (by omega)]; exact c), if_pos c]
    · rw [if_neg (by rw [nI_leI (by omega) (by omega)]; exact c), if_neg c]
  · unfold bX0_rowWithFewest_4
    simp only
    rw [if_pos (by rw [nI_leI (by omega) (by omega)]; omega)]
def sel (ρ k i t : Nat) (fr mn : Nat → Nat) : Nat := if ρ = 1 then i % k else if ρ = 2 then fw mn k else if ρ = 3 then sr fr t k else 0
def fr2 (ρ k : Nat) (ga : Nat → Nat) : Nat → (Nat → Nat) × (Nat → Nat)
  | 0 => (fun _ => 10, fun _ => 0)
  | i + 1 => (fun x => if x = sel ρ k i (ga i) (fr2 ρ k ga i).1 (fr2 ρ k ga i).2 then ga i else (fr2 ρ k ga i).1 x, fun x => if x = sel ρ k i (ga i) (fr2 ρ k ga i).1 (fr2 ρ k ga i).2 then (fr2 ρ k ga i).2 x + 1 else (fr2 ρ k ga i).2 x)
def rr (ρ k : Nat) (ga : Nat → Nat) (i : Nat) : Nat := sel ρ k i (ga i) (fr2 ρ k ga i).1 (fr2 ρ k ga i).2
def lc (ρ k : Nat) (ga : Nat → Nat) (i : Nat) : Nat := cnt (fun j => decide (j < i) && (decide (ga j < ga i) && (rr ρ k ga j == rr ρ k ga i))) 10
def sl (ρ k : Nat) (ga : Nat → Nat) : Nat → Nat
  | 0 => 0
  | i + 1 => sl ρ k ga i + lc ρ k ga i
section RL
variable {ρ k : Nat} {ga : Nat → Nat}
theorem sel_lt {i t : Nat} {fr mn : Nat → Nat} (h : 0 < k) : sel ρ k i t fr mn < k := by
  unfold sel
  split
  · exact Nat.mod_lt _ h
  · split
    · exact fw_lt mn h
    · split
      · exact sr_lt fr t h
      · exact h
theorem rr_lt {i : Nat} (h : 0 < k) : rr ρ k ga i < k := sel_lt h
theorem fr_le {m : Nat} (hg : ∀ i, i < m → ga i < 10) : ∀ {i : Nat}, i ≤ m → ∀ x, (fr2 ρ k ga i).1 x ≤ 10
  | 0, _, x => by show 10 ≤ 10; omega
  | i + 1, hi, x => by
    show (if x = _ then ga i else (fr2 ρ k ga i).1 x) ≤ 10
    split
    · have := hg i (by omega); omega
    · exact fr_le hg (by omega) x
theorem mn_eq : ∀ {i : Nat}, i ≤ 10 → ∀ x, cnt (fun j => decide (j < i) && (rr ρ k ga j == x)) 10 = (fr2 ρ k ga i).2 x
  | 0, _, x => by
    rw [cnt_congr (T := fun _ => false) (fun j _ => by simp)]; rfl
  | i + 1, hi, x => by
    have ih := mn_eq (i := i) (by omega) x
    show _ = (if x = rr ρ k ga i then (fr2 ρ k ga i).2 x + 1 else (fr2 ρ k ga i).2 x)
    by_cases e : x = rr ρ k ga i
    · rw [if_pos e, ← ih]
      have h1 : cnt (fun j => decide (j < i + 1) && (rr ρ k ga j == x)) 10 = cnt (fun j => (decide (j < i) && (rr ρ k ga j == x)) || (j == i)) 10 := by
        apply cnt_congr
        intro j _
        by_cases w : j = i
        · subst w; simp [e]
        · rw [show decide (j < i + 1) = decide (j < i) by simp; omega, beq_false_of_ne w, Bool.or_false]
      rw [h1]
      exact cnt_ins (S := fun j => decide (j < i) && (rr ρ k ga j == x)) (by omega) (by simp)
    · rw [if_neg e, ← ih]
      apply cnt_congr
      intro j _
      by_cases w : j = i
      · subst w; simp [beq_false_of_ne (Ne.symm e)]
      · rw [show decide (j < i + 1) = decide (j < i) by simp; omega]
theorem lc_le (i : Nat) : lc ρ k ga i ≤ 10 := cnt_le _ _
theorem sl_le : ∀ i, sl ρ k ga i ≤ 10 * i
  | 0 => by simp [sl]
  | i + 1 => by rw [sl]; have := sl_le i; have := @lc_le ρ k ga i; omega
end RL
theorem emptyRows_eq {N : Nat} {ir fg : Nat → Int32} (hN : 20 < N) : ∃ a b : Nat → Int32, fX0_emptyRows N ir fg = some (a, b) ∧ (∀ r, r < 10 → a r = 0) ∧ ∀ r, r < 10 → b r = 10 := by
  unfold fX0_emptyRows
  obtain ⟨z, hz, e⟩ := lp_for (b := bX0_emptyRows_2 N) 10 (fun k s => ∃ a b : Nat → Int32, s = (nI k, a, b) ∧ (∀ r, r < k → a r = 0) ∧ ∀ r, r < k → b r = 10) (fun z => ∃ a b : Nat → Int32, z = some (a, b) ∧ (∀ r, r < 10 → a r = 0) ∧ ∀ r, r < 10 → b r = 10)
    (fun k s hk hp => by
      obtain ⟨a, b, rfl, h1, h2⟩ := hp
      left
      refine ⟨(nI (k + 1), upd a k 0, upd b k 10), ⟨_, _, rfl, fun r hr => ?_, fun r hr => ?_⟩, fun κ => ?_⟩
      · unfold upd
        by_cases w : r = k
        · rw [if_pos w]
        · rw [if_neg w]; exact h1 r (by omega)
      · unfold upd
        by_cases w : r = k
        · rw [if_pos w]
        · rw [if_neg w]; exact h2 r (by omega)
      · unfold bX0_emptyRows_2
        simp only
        rw [if_neg (by rw [li10, nI_leI (by omega) (by omega)]; omega), if_pos (chk_nI hk (by omega)), if_pos (chk_nI hk (by omega)), nI_clamp (by omega), nI_1])
    (fun s hp => by
      obtain ⟨a, b, rfl, h1, h2⟩ := hp
      refine ⟨_, ⟨a, b, rfl, h1, h2⟩, fun κ => ?_⟩
      unfold bX0_emptyRows_2
      simp only
      rw [if_pos (by rw [li10, nI_leI (by omega) (by omega)]; omega)])
    (k := 0) (s := (0, ir, fg)) (N := N) (by omega) ⟨ir, fg, rfl, fun r hr => by omega, fun r hr => by omega⟩ (by omega)
  obtain ⟨a, b, h1, h2, h3⟩ := hz
  exact ⟨a, b, by rw [e, h1], h2, h3⟩
theorem layByRule_eq {N ρ k m : Nat} {ga : Nat → Nat} {gt lft ra ir fg : Nat → Int32} (hN : 20 < N) (hρ : ρ ≤ 3) (hk1 : 1 ≤ k) (hk : k ≤ 10) (hm : m ≤ 10) (hg : ∀ i, i < m → gt i = nI (ga i) ∧ ga i < 10) (hl : ∀ i, i < m → lft i = M (fun j => decide (j < i) && decide (ga j < ga i))) :
    ∃ ra' ir' fg' : Nat → Int32, fX0_layByRule N gt lft ra ir fg (nI ρ) (nI k) (nI m) = some (nI (sl ρ k ga m), ra', ir', fg') ∧ CA m (rr ρ k ga) ra' := by
  obtain ⟨a, b, e0, ha, hb⟩ := emptyRows_eq (N := N) (ir := ir) (fg := fg) hN
  unfold fX0_layByRule
  rw [e0, Option.bind_some]
  simp only
  obtain ⟨z, hz, e⟩ := lp_for (b := bX0_layByRule_10 N gt lft (nI ρ) (nI k) (nI m)) m (fun i s => ∃ ra ir fg : Nat → Int32, s = (nI (sl ρ k ga i), nI i, ra, ir, fg) ∧ CA i (rr ρ k ga) ra ∧ (∀ r, r < 10 → ir r = M (fun j => decide (j < i) && (rr ρ k ga j == r))) ∧ ∀ r, r < 10 → fg r = nI ((fr2 ρ k ga i).1 r)) (fun z => ∃ ra' ir' fg' : Nat → Int32, z = some (nI (sl ρ k ga m), ra', ir', fg') ∧ CA m (rr ρ k ga) ra')
    (fun i s hi hp => by
      obtain ⟨ra, ir, fg, rfl, h1, h2, h3⟩ := hp
      obtain ⟨g1, g2⟩ := hg i hi
      have hrr : rr ρ k ga i < k := rr_lt (by omega)
      have hsl := @sl_le ρ k ga i
      have hlc := @lc_le ρ k ga i
      left
      refine ⟨(nI (sl ρ k ga (i + 1)), nI (i + 1), upd ra i (nI (rr ρ k ga i)), upd ir (rr ρ k ga i) (M (fun j => (decide (j < i) && (rr ρ k ga j == rr ρ k ga i)) || (j == i))), upd fg (rr ρ k ga i) (nI (ga i))), ⟨_, _, _, rfl, fun j hj => ?_, fun r hr => ?_, fun r hr => ?_⟩, fun κ => ?_⟩
      · unfold upd
        by_cases w : j = i
        · rw [if_pos w, w]
        · rw [if_neg w]; exact h1 j (by omega)
      · unfold upd
        by_cases w : r = rr ρ k ga i
        · rw [if_pos w]
          refine M_congr (fun j _ => ?_)
          by_cases v : j = i
          · subst v; simp [w]
          · rw [show decide (j < i + 1) = decide (j < i) by simp; omega, beq_false_of_ne v, Bool.or_false, w]
        · rw [if_neg w, h2 r hr]
          refine M_congr (fun j _ => ?_)
          by_cases v : j = i
          · subst v; simp [beq_false_of_ne (Ne.symm w)]
          · rw [show decide (j < i + 1) = decide (j < i) by simp; omega]
      · unfold upd
        show _ = nI (if r = rr ρ k ga i then ga i else (fr2 ρ k ga i).1 r)
        by_cases w : r = rr ρ k ga i
        · rw [if_pos w, if_pos w]
        · rw [if_neg w, if_neg w]; exact h3 r hr
      · have e71 : ∀ x : Int32, x = nI (rr ρ k ga i) → bX0_layByRule_71 N gt lft (nI ρ) (nI k) (nI m) κ (nI (sl ρ k ga i)) (nI i) x ra ir fg = κ (nI (sl ρ k ga (i + 1)), nI (i + 1), upd ra i (nI (rr ρ k ga i)), upd ir (rr ρ k ga i) (M (fun j => (decide (j < i) && (rr ρ k ga j == rr ρ k ga i)) || (j == i))), upd fg (rr ρ k ga i) (nI (ga i))) := by
          intro x hx
          subst hx
          unfold bX0_layByRule_71 fX0_liftedWith
          have hlw : cnt (fun j => (decide (j < i) && decide (ga j < ga i)) && (decide (j < i) && (rr ρ k ga j == rr ρ k ga i))) 10 = lc ρ k ga i := by
            unfold lc
            apply cnt_congr
            intro j _
            cases decide (j < i) <;> simp
          rw [if_pos (chk_nI (show i < 10 by omega) (by omega)), if_pos (chk_nI (show rr ρ k ga i < 10 by omega) (by omega)), nI_clamp (show i < 2 ^ 31 by omega), nI_clamp (show rr ρ k ga i < 2 ^ 31 by omega), hl i hi, h2 _ (by omega), M_and, bitCount_M, hlw, Option.bind_some, Option.bind_some, if_pos (chk_nI (show rr ρ k ga i < 10 by omega) (by omega)), bit_in (show i < 10 by omega), Option.bind_some, if_pos (chk_nI (show rr ρ k ga i < 10 by omega) (by omega)), if_pos (chk_nI (show i < 10 by omega) (by omega)), if_pos (chk_nI (show rr ρ k ga i < 10 by omega) (by omega)), if_pos (chk_nI (show i < 10 by omega) (by omega)), g1, M_or, nI_1, nI_add, sl]
        have e37 : ∀ x : Int32, (¬ ρ = 1 ∧ x = 0) → bX0_layByRule_37 N gt lft (nI ρ) (nI k) (nI m) κ (nI (sl ρ k ga i)) (nI i) x ra ir fg = κ (nI (sl ρ k ga (i + 1)), nI (i + 1), upd ra i (nI (rr ρ k ga i)), upd ir (rr ρ k ga i) (M (fun j => (decide (j < i) && (rr ρ k ga j == rr ρ k ga i)) || (j == i))), upd fg (rr ρ k ga i) (nI (ga i))) := by
          rintro x ⟨hx, rfl⟩
          unfold bX0_layByRule_37
          by_cases c2 : ρ = 2
          · rw [if_pos (show nI ρ = 2 by rw [c2]; rfl), fewest_eq (mn := (fr2 ρ k ga i).2) (S := fun r j => decide (j < i) && (rr ρ k ga j == r)) hN hk hk1 (fun r hr => ⟨h2 r hr, mn_eq (by omega) r⟩), Option.bind_some]
            exact e71 _ (by unfold rr sel; rw [if_neg hx, if_pos c2])
          · rw [if_neg (show ¬ nI ρ = 2 by rw [li2, nI_eq (by omega) (by omega)]; exact c2)]
            by_cases c3 : ρ = 3
            · rw [if_pos (show nI ρ = 3 by rw [c3]; rfl), if_pos (chk_nI (show i < 10 by omega) (by omega)), nI_clamp (by omega), g1, going_eq (fr := (fr2 ρ k ga i).1) hN hk g2 (fun r hr => ⟨h3 r hr, fr_le (m := m) (fun j hj => (hg j hj).2) (by omega) r⟩), Option.bind_some]
              exact e71 _ (by unfold rr sel; rw [if_neg hx, if_neg c2, if_pos c3])
            · rw [if_neg (show ¬ nI ρ = 3 by rw [li3, nI_eq (by omega) (by omega)]; exact c3)]
              exact e71 _ (by unfold rr sel; rw [if_neg hx, if_neg c2, if_neg c3]; rfl)
        unfold bX0_layByRule_10
        simp only
        rw [if_neg (by rw [nI_leI (by omega) (by omega)]; omega)]
        by_cases c1 : ρ = 1
        · rw [if_pos (show nI ρ = 1 by rw [c1]; rfl), if_neg (show ¬ nI k ≤ 0 by rw [li0, nI_leI (by omega) (by omega)]; omega), if_pos (show ¬ nI k = 0 by rw [li0, nI_eq (by omega) (by omega)]; omega), pk_rem (by omega) (by omega) (by omega)]
          exact e71 _ (by unfold rr sel; rw [if_pos c1])
        · rw [if_neg (show ¬ nI ρ = 1 by rw [li1, nI_eq (by omega) (by omega)]; exact c1)]
          exact e37 _ ⟨c1, rfl⟩)
    (fun s hp => by
      obtain ⟨ra, ir, fg, rfl, h1, h2, h3⟩ := hp
      refine ⟨_, ⟨ra, ir, fg, rfl, h1⟩, fun κ => ?_⟩
      unfold bX0_layByRule_10
      simp only
      rw [if_pos (by rw [nI_leI (by omega) (by omega)]; omega)])
    (k := 0) (s := (0, 0, ra, a, b)) (N := N) (by omega) ⟨ra, a, b, rfl, fun j hj => by omega, fun r hr => by rw [ha r hr, M_none]; exact M_congr (fun j _ => by simp), fun r hr => hb r hr⟩ (by omega)
  obtain ⟨ra', ir', fg', h1, h2⟩ := hz
  exact ⟨ra', ir', fg', by rw [e, h1], h2⟩

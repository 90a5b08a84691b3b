/-! ===== the hall: who is laid, what is lifted (the class) ===== -/
theorem cnt_ins {S : Nat → Bool} {x : Nat} : ∀ {m : Nat}, x < m → S x = false → cnt (fun g => S g || (g == x)) m = cnt S m + 1
  | 0, h, _ => absurd h (Nat.not_lt_zero _)
  | m + 1, h, hx => by
    rw [cnt, cnt]
    by_cases e : x = m
    · subst e
      rw [cnt_congr (T := S) (fun g hg => by rw [beq_false_of_ne (by omega : g ≠ x), Bool.or_false])]
      simp [hx]
    · rw [cnt_ins (by omega) hx, beq_false_of_ne (by omega : m ≠ x), Bool.or_false]
      omega
theorem cnt_mono {S T : Nat → Bool} : ∀ {m : Nat}, (∀ g, g < m → S g = true → T g = true) → cnt S m ≤ cnt T m
  | 0, _ => Nat.le_refl _
  | m + 1, h => by
    rw [cnt, cnt]
    have h1 := cnt_mono (m := m) (fun g hg => h g (by omega))
    by_cases c : S m = true
    · rw [if_pos c, if_pos (h m (by omega) c)]; omega
    · rw [if_neg c]; omega
theorem cnt_same {S T : Nat → Bool} : ∀ {m : Nat}, (∀ g, g < m → S g = true → T g = true) → cnt T m ≤ cnt S m → ∀ g, g < m → S g = T g
  | 0, _, _, g, hg => absurd hg (Nat.not_lt_zero _)
  | m + 1, h, hc, g, hg => by
    rw [cnt, cnt] at hc
    have h1 := cnt_mono (m := m) (fun g hg => h g (by omega))
    by_cases c : S m = true
    · have ct := h m (by omega) c
      rw [if_pos c, if_pos ct] at hc
      by_cases e : g = m
      · rw [e, c, ct]
      · exact cnt_same (m := m) (fun g hg => h g (by omega)) (by omega) g (by omega)
    · have ct : ¬ T m = true := fun z => by rw [if_neg c, if_pos z] at hc; omega
      rw [if_neg c, if_neg ct] at hc
      by_cases e : g = m
      · rw [e, Bool.eq_false_iff.mpr c, Bool.eq_false_iff.mpr ct]
      · exact cnt_same (m := m) (fun g hg => h g (by omega)) (by omega) g (by omega)
theorem cnt_lt : ∀ (m n : Nat), n ≤ m → cnt (fun g => decide (g < n)) m = n
  | 0, n, h => by simp [cnt]; omega
  | m + 1, n, h => by
    rw [cnt]
    by_cases c : n ≤ m
    · rw [cnt_lt m n c, if_neg (by simp; omega), Nat.add_zero]
    · have e : n = m + 1 := by omega
      subst e
      rw [cnt_congr (T := fun g => decide (g < m)) (fun g hg => by simp; omega), cnt_lt m m (Nat.le_refl _), if_pos (by simp)]
theorem cnt_sn {al : Nat → Bool} {β : Nat → Nat} : ∀ {n : Nat}, (∀ k, k < n → okc al β k = true) → cnt (sn β n) 10 = n
  | 0, _ => by simp [sn, cnt]
  | n + 1, h => by
    obtain ⟨h1, h2, h3, h4⟩ := okc_lo (h n (by omega))
    have e : cnt (sn β (n + 1)) 10 = cnt (fun g => sn β n g || (g == β n - 97)) 10 := cnt_congr (fun g _ => rfl)
    rw [e, cnt_ins (by omega) h4, cnt_sn (fun k hk => h k (by omega))]
theorem end_iff {n : Nat → Nat} {β : Nat → Nat → Nat} (h2 : n 2 ≤ 10) (ha : tF2a n β = -1) : M (sn (β 2) (n 2)) = M (fun g => decide (g < n 2)) ↔ tF2b n β = -1 := by
  have hok : ∀ k, k < n 2 → okc (fun _ => true) (β 2) k = true := fun k hk => ft_ok (n 2) 0 (by omega) ha k (by omega) (by omega)
  constructor
  · intro h
    refine ft_all (n 2) 0 (fun k _ hk => ?_)
    obtain ⟨q1, q2, q3, q4⟩ := okc_lo (hok k (by omega))
    have h3 := M_inj h (β 2 k - 97) (by omega)
    have h4 : sn (β 2) (n 2) (β 2 k - 97) = true := sn_iff.mpr ⟨k, by omega, rfl⟩
    rw [h4] at h3
    simp only [okc, Bool.and_eq_true, decide_eq_true_eq, Bool.not_eq_true']
    exact ⟨q1, q2, by simpa using h3.symm, q4⟩
  · intro h
    have hok2 : ∀ k, k < n 2 → okc (fun g => decide (g < n 2)) (β 2) k = true := fun k hk => ft_ok (n 2) 0 (by omega) h k (by omega) (by omega)
    refine M_congr (cnt_same (fun g hg z => ?_) ?_)
    · obtain ⟨j, hj, e⟩ := sn_iff.mp z
      rw [e]
      exact (okc_lo (hok2 j hj)).2.2.1
    · rw [cnt_lt 10 (n 2) h2, cnt_sn hok]
      exact Nat.le_refl _
theorem judgeEnd_eq {n : Nat → Nat} {β : Nat → Nat → Nat} (h2 : n 2 ≤ 10) : fX4_judgeEnd (nI (n 2)) (tF2a n β) (if tF2a n β = -1 then nI (n 2) else 0) (if tF2a n β = -1 then M (sn (β 2) (n 2)) else 0) = some (tF2 n β, nI (tW n β), if tF2 n β = -1 then M (sn (β 2) (n 2)) else 0) := by
  unfold fX4_judgeEnd
  by_cases c : tF2a n β = -1
  · rw [if_pos c, if_pos c, if_pos c, shl_mask _ h2]
    by_cases d : tF2b n β = -1
    · have e : tF2 n β = -1 := by unfold tF2; rw [if_pos c, if_pos d]
      have e2 : tW n β = n 2 := by unfold tW; rw [if_pos e]
      rw [if_pos ((end_iff h2 c).mpr d), e, if_pos rfl, e2, c]
    · have e : tF2 n β = nI (n 2) := by unfold tF2; rw [if_pos c, if_neg d]
      have e2 : tW n β = 0 := by unfold tW; rw [e, if_neg (m1_ne (by omega))]
      rw [if_neg (fun z => d ((end_iff h2 c).mp z)), keep_eq, Option.bind_some, e, e2]
      simp only [if_neg (m1_ne (show n 2 < 2 ^ 31 by omega))]
      rfl
  · have e : tF2 n β = tF2a n β := by unfold tF2; rw [if_neg c]
    have e2 : tW n β = 0 := by unfold tW; rw [e, if_neg c]
    rw [if_neg c, if_neg c, if_neg c, e, e2, if_neg c]
    rfl
theorem guestAt_in {bytes : Nat → Int32} {n k b : Nat} (hn : n ≤ 10) (hk : k < n) (hb : bytes k = nI b) (h1 : 97 ≤ b) (h2 : b ≤ 106) : fX4_guestAt bytes (nI n) (nI k) = some (nI (b - 97)) := by
  unfold fX4_guestAt
  rw [within_eq, Option.bind_some, nI_pd (by omega), if_pos (show (0 : Int32) ≤ nI k ∧ nI k ≤ nI (n - 1) from ⟨nI_pos' (by omega), nI_le (by omega) (by omega)⟩), if_neg (by decide), if_pos (chk_nI (by omega) (by omega)), nI_clamp (by omega), hb, let_in h1 h2]
theorem bit_in {g : Nat} (h : g < 10) : fX6_bit (nI g) = some (M (fun x => x == g)) := by
  unfold fX6_bit
  rw [if_neg (nI_pos (by omega)), if_neg (by rw [li10, nI_leI (by omega) (by omega)]; omega), M_bit g h]
-- the laying, place by place
section LY
variable (row cm : Nat → Nat) (dp : Nat)
def L_S : Nat → Nat → Bool
  | 0, _ => false
  | k + 1, g => L_S k g || ((g == cm k) && decide (cnt (fun x => L_S k x && (row x == row (cm k))) 10 < dp))
def fitk (k : Nat) : Bool := decide (cnt (fun x => L_S row cm dp k x && (row x == row (cm k))) 10 < dp)
def J_G : Nat → Int32
  | 0 => -1
  | k + 1 => if fitk row cm dp k then J_G k else if J_G k = -1 then nI (cm k) else J_G k
def F_R : Nat → Nat → Nat → Bool
  | 0, _, _ => false
  | k + 1, o, x => F_R k o x || ((x == cm k) && (fitk row cm dp k && (L_S row cm dp k o && (row o == row (cm k)))))
end LY
theorem layInFront_eq {N g r : Nat} {ir fo : Nat → Int32} {S L : Nat → Bool} {F : Nat → Nat → Bool} (hN : 20 < N) (hg : g < 10) (hr : r < 10) (hS : ir r = M S) (hF : ∀ o, o < 10 → fo o = M (F o)) :
    ∃ fo' : Nat → Int32, fX2_layInFront N ir fo (M L) (nI g) (nI r) = some (upd ir r (M (fun x => S x || (x == g))), fo', M (fun x => L x || (x == g))) ∧ ∀ o, o < 10 → fo' o = M (fun x => F o x || ((x == g) && S o)) := by
  unfold fX2_layInFront
  obtain ⟨z, hz, e⟩ := lp_for (b := bX2_layInFront_2 N (nI g) (nI r) ir (M L)) 10 (fun k s => ∃ f : Nat → Int32, s = (nI k, f) ∧ ∀ o, o < 10 → f o = M (fun x => F o x || ((x == g) && (decide (o < k) && S o))))
    (fun z => ∃ fo' : Nat → Int32, z = some (upd ir r (M (fun x => S x || (x == g))), fo', M (fun x => L x || (x == g))) ∧ ∀ o, o < 10 → fo' o = M (fun x => F o x || ((x == g) && S o)))
    (fun k s hk hp => by
      obtain ⟨f, rfl, hf⟩ := hp
      left
      by_cases c : S k = true
      · refine ⟨(nI (k + 1), upd f k (M (fun x => F k x || (x == g)))), ⟨_, rfl, fun o ho => ?_⟩, fun κ => ?_⟩
        · unfold upd
          by_cases e : o = k
          · subst e
            rw [if_pos rfl]
            exact M_congr (fun x _ => by simp [c])
          · rw [if_neg e, hf o ho]
            exact M_congr (fun x _ => by rw [show decide (o < k + 1) = decide (o < k) by simp; omega])
        · unfold bX2_layInFront_2 bX2_layInFront_34
          simp only
          rw [if_neg (by rw [li10, nI_leI (by omega) (by omega)]; omega), if_pos (chk_nI hr (by omega)), nI_clamp (by omega), hS, has_M hk, Option.bind_some, if_pos c, if_neg (by decide), if_pos (chk_nI hk (by omega)), bit_in hg, Option.bind_some, if_pos (chk_nI hk (by omega)), nI_clamp (by omega), hf k hk, M_or, nI_1]
          congr 3
          exact M_congr (fun x _ => by simp)
      · refine ⟨(nI (k + 1), f), ⟨_, rfl, fun o ho => ?_⟩, fun κ => ?_⟩
        · rw [hf o ho]
          refine M_congr (fun x _ => ?_)
          by_cases e : o = k
          · subst e; simp [c]
          · rw [show decide (o < k + 1) = decide (o < k) by simp; omega]
        · unfold bX2_layInFront_2 bX2_layInFront_34
          simp only
          rw [if_neg (by rw [li10, nI_leI (by omega) (by omega)]; omega), if_pos (chk_nI hr (by omega)), nI_clamp (by omega), hS, has_M hk, Option.bind_some, if_neg c, if_pos rfl, nI_1])
    (fun s hp => by
      obtain ⟨f, rfl, hf⟩ := hp
      refine ⟨_, ⟨f, rfl, fun o ho => by rw [hf o ho]; exact M_congr (fun x _ => by simp [ho])⟩, fun κ => ?_⟩
      unfold bX2_layInFront_2
      simp only
      rw [if_pos (by rw [li10, nI_leI (by omega) (by omega)]; omega), if_pos (chk_nI hr (by omega)), bit_in hg, Option.bind_some, if_pos (chk_nI hr (by omega)), Option.bind_some, nI_clamp (by omega), hS, M_or, M_or])
    (k := 0) (s := (0, fo)) (N := N) (by omega) ⟨fo, rfl, fun o ho => by rw [hF o ho]; exact M_congr (fun x _ => by simp)⟩ (by omega)
  obtain ⟨fo', h1, h2⟩ := hz
  exact ⟨fo', by rw [e, h1], h2⟩
/-- comers: distinct guests -/
def DG (n : Nat) (cm : Nat → Nat) : Prop := n ≤ 10 ∧ (∀ k, k < n → cm k < 10) ∧ ∀ i j, i < n → j < n → cm i = cm j → i = j
/-- a text of the class that tells guests -/
def TG (n : Nat) (cm : Nat → Nat) (bytes : Nat → Int32) : Prop := ∀ k, k < n → bytes k = nI (cm k + 97)
theorem guestAt_eq {bytes : Nat → Int32} {n k : Nat} {cm : Nat → Nat} (hd : DG n cm) (ht : TG n cm bytes) (hk : k < n) : fX4_guestAt bytes (nI n) (nI k) = some (nI (cm k)) := by
  have h1 := hd.2.1 k hk
  have := guestAt_in (bytes := bytes) hd.1 hk (ht k hk) (by omega) (by omega)
  rwa [show cm k + 97 - 97 = cm k by omega] at this
theorem L_S_in {row cm : Nat → Nat} {dp n : Nat} (hd : DG n cm) : ∀ {k : Nat}, k ≤ n → ∀ {g : Nat}, L_S row cm dp k g = true → ∃ j, j < k ∧ g = cm j
  | 0, _, g, h => by simp [L_S] at h
  | k + 1, hk, g, h => by
    rw [L_S, Bool.or_eq_true, Bool.and_eq_true, beq_iff_eq] at h
    rcases h with h | h
    · obtain ⟨j, h1, h2⟩ := L_S_in hd (by omega) h
      exact ⟨j, by omega, h2⟩
    · exact ⟨k, by omega, h.1⟩
theorem L_S_new {row cm : Nat → Nat} {dp n k : Nat} (hd : DG n cm) (hk : k < n) : L_S row cm dp k (cm k) = false := by
  cases h : L_S row cm dp k (cm k) with
  | false => rfl
  | true =>
    obtain ⟨j, h1, h2⟩ := L_S_in hd (by omega) h
    have := hd.2.2 k j hk (by omega) h2
    omega
theorem L_S_s (row cm : Nat → Nat) (dp k g : Nat) : L_S row cm dp (k + 1) g = (L_S row cm dp k g || ((g == cm k) && fitk row cm dp k)) := rfl
theorem lay_eq {N n dp : Nat} {row cm : Nat → Nat} {ir fo bytes rowOf : Nat → Int32} {ld jg : Int32} (hN : 20 < N) (hd : DG n cm) (ht : TG n cm bytes) (hrow : ∀ g, g < 10 → rowOf g = nI (row g) ∧ row g < 10) (hdp : dp ≤ 10) :
    ∃ ir' fo' : Nat → Int32, fX2_lay N ir fo ld jg bytes (nI n) rowOf (nI dp) = some (ir', fo', M (L_S row cm dp n), J_G row cm dp n) ∧ (∀ r, r < 10 → ir' r = M (fun g => L_S row cm dp n g && (row g == r))) ∧ ∀ o, o < 10 → fo' o = M (F_R row cm dp n o) := by
  have second : ∀ ir fo : Nat → Int32, (∀ r, r < 10 → ir r = 0) → (∀ o, o < 10 → fo o = 0) → ∃ z, (∃ ir' fo' : Nat → Int32, z = some (ir', fo', M (L_S row cm dp n), J_G row cm dp n) ∧ (∀ r, r < 10 → ir' r = M (fun g => L_S row cm dp n g && (row g == r))) ∧ ∀ o, o < 10 → fo' o = M (F_R row cm dp n o)) ∧ lp (bX2_lay_45 N bytes (nI n) rowOf (nI dp)) N (0, ir, fo, 0, -1) = z := by
    intro ir fo h1 h2
    refine lp_for (b := bX2_lay_45 N bytes (nI n) rowOf (nI dp)) n (fun k s => ∃ ir fo : Nat → Int32, s = (nI k, ir, fo, M (L_S row cm dp k), J_G row cm dp k) ∧ (∀ r, r < 10 → ir r = M (fun g => L_S row cm dp k g && (row g == r))) ∧ ∀ o, o < 10 → fo o = M (F_R row cm dp k o)) _
      (fun k s hk hp => ?_) (fun s hp => ?_) (k := 0) (by omega) ⟨ir, fo, ?_, fun r hr => by rw [h1 r hr, M_none]; rfl, fun o ho => by rw [h2 o ho, M_none]; rfl⟩ (by have := hd.1; omega)
    · obtain ⟨ir, fo, rfl, hi, hf⟩ := hp
      have hn := hd.1
      have hc := hd.2.1 k hk
      obtain ⟨r1, r2⟩ := hrow (cm k) hc
      left
      have hcnt : cnt (fun g => L_S row cm dp k g && (row g == row (cm k))) 10 ≤ 10 := cnt_le _ _
      by_cases c : fitk row cm dp k = true
      · obtain ⟨fo', e1, e2⟩ := layInFront_eq (N := N) (g := cm k) (r := row (cm k)) (ir := ir) (fo := fo) (L := L_S row cm dp k) (F := F_R row cm dp k) hN hc r2 (hi _ r2) hf
        refine ⟨_, ⟨upd ir (row (cm k)) (M (fun x => (L_S row cm dp k x && (row x == row (cm k))) || (x == cm k))), fo', rfl, fun r hr => ?_, fun o ho => ?_⟩, fun κ => ?_⟩
        · unfold upd
          by_cases e : r = row (cm k)
          · subst e
            rw [if_pos rfl]
            refine M_congr (fun x _ => ?_)
            rw [L_S_s, c]
            by_cases w : x = cm k
            · subst w; simp
            · simp [beq_false_of_ne w]
          · rw [if_neg e, hi r hr]
            refine M_congr (fun x _ => ?_)
            rw [L_S_s]
            by_cases w : x = cm k
            · subst w; simp [beq_false_of_ne (Ne.symm e)]
            · simp [beq_false_of_ne w]
        · rw [e2 o ho]
          refine M_congr (fun x _ => ?_)
          rw [F_R, c, Bool.true_and]
        · unfold bX2_lay_45 bX2_lay_107
          simp only
          rw [if_neg (by rw [nI_leI (by omega) (by omega)]; omega), guestAt_eq hd ht hk, Option.bind_some, if_pos (chk_nI hc (by omega)), nI_clamp (by omega), r1, if_pos (chk_nI r2 (by omega)), nI_clamp (by omega), hi _ r2, bitCount_M, Option.bind_some, if_neg (by rw [nI_leI (by omega) (by omega)]; have := of_decide_eq_true c; omega), e1, Option.bind_some, nI_1]
          simp only
          rw [J_G, if_pos c]
          congr 4
          refine congrArg (fun z => (z, _)) (M_congr (fun x _ => ?_))
          rw [L_S_s, c, Bool.and_true]
      · have c' : fitk row cm dp k = false := Bool.eq_false_iff.mpr c
        refine ⟨_, ⟨ir, fo, rfl, fun r hr => ?_, fun o ho => ?_⟩, fun κ => ?_⟩
        · rw [hi r hr]
          exact M_congr (fun x _ => by rw [L_S_s, c']; simp)
        · rw [hf o ho]
          exact M_congr (fun x _ => by rw [F_R, c']; simp)
        · unfold bX2_lay_45 bX2_lay_107
          simp only
          rw [if_neg (by rw [nI_leI (by omega) (by omega)]; omega), guestAt_eq hd ht hk, Option.bind_some, if_pos (chk_nI hc (by omega)), nI_clamp (by omega), r1, if_pos (chk_nI r2 (by omega)), nI_clamp (by omega), hi _ r2, bitCount_M, Option.bind_some, if_pos (by rw [nI_leI (by omega) (by omega)]; have := of_decide_eq_false c'; omega), nI_1]
          have eM : M (L_S row cm dp (k + 1)) = M (L_S row cm dp k) := M_congr (fun x _ => by rw [L_S_s, c']; simp)
          rw [eM, J_G, if_neg c]
          by_cases d : J_G row cm dp k = -1
          · rw [if_pos d, if_pos d]
          · rw [if_neg d, if_neg d]
    · obtain ⟨ir, fo, rfl, hi, hf⟩ := hp
      refine ⟨_, ⟨ir, fo, rfl, hi, hf⟩, fun κ => ?_⟩
      unfold bX2_lay_45
      simp only
      rw [if_pos (by have := hd.1; rw [nI_leI (by omega) (by omega)]; omega)]
    · show _ = (nI 0, ir, fo, M (fun _ => false), (-1 : Int32))
      rw [← M_none]; rfl
  unfold fX2_lay
  obtain ⟨z, hz, e⟩ := lp_for (b := bX2_lay_3 N bytes (nI n) rowOf (nI dp) ld jg) 10 (fun k s => ∃ a b : Nat → Int32, s = (nI k, a, b) ∧ (∀ r, r < k → a r = 0) ∧ (∀ r, r < k → b r = 0))
    (fun z => ∃ ir' fo' : Nat → Int32, z = some (ir', fo', M (L_S row cm dp n), J_G row cm dp n) ∧ (∀ r, r < 10 → ir' r = M (fun g => L_S row cm dp n g && (row g == r))) ∧ ∀ o, o < 10 → fo' o = M (F_R row cm dp n o))
    (fun k s hk hp => by
      obtain ⟨a, b, rfl, ha, hb⟩ := hp
      left
      refine ⟨(nI (k + 1), upd a k 0, upd b k 0), ⟨_, _, rfl, fun r hr => ?_, fun r hr => ?_⟩, fun κ => ?_⟩
      · unfold upd
        by_cases e : r = k
        · rw [if_pos e]
        · rw [if_neg e]; exact ha r (by omega)
      · unfold upd
        by_cases e : r = k
        · rw [if_pos e]
        · rw [if_neg e]; exact hb r (by omega)
      · unfold bX2_lay_3
        simp only
        rw [if_neg (by rw [li10, nI_leI (by omega) (by omega)]; omega), if_pos (chk_nI hk (by omega)), if_pos (chk_nI hk (by omega)), nI_clamp (by omega), nI_1])
    (fun s hp => by
      obtain ⟨a, b, rfl, ha, hb⟩ := hp
      obtain ⟨z, hz, e⟩ := second a b ha hb
      refine ⟨z, hz, fun κ => ?_⟩
      unfold bX2_lay_3
      simp only
      rw [if_pos (by rw [li10, nI_leI (by omega) (by omega)]; omega)]
      exact e)
    (k := 0) (s := (0, ir, fo)) (N := N) (by omega) ⟨ir, fo, rfl, fun r hr => by omega, fun r hr => by omega⟩ (by omega)
  obtain ⟨ir', fo', h1, h2, h3⟩ := hz
  exact ⟨ir', fo', by rw [e, h1], h2, h3⟩

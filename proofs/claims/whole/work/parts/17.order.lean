/-! ===== all go: when each goes ===== -/
def pof (gm : Nat → Nat) : Nat → Nat → Option Nat
  | 0, _ => none
  | k + 1, g => if g = gm k then some k else pof gm k g
def pI (o : Option Nat) : Int32 := match o with
  | none => -1
  | some j => nI j
def wh (C : Nat → Bool) (gm : Nat → Nat) (ng g : Nat) : Nat := match pof gm ng g with
  | some j => j
  | none => ng + cnt (fun x => C x && !gn gm ng x) g
theorem pof_some {gm : Nat → Nat} {ng : Nat} (hd : DG ng gm) : ∀ {k g j : Nat}, k ≤ ng → (pof gm k g = some j ↔ j < k ∧ gm j = g)
  | 0, g, j, _ => by simp [pof]
  | k + 1, g, j, hk => by
    rw [pof]
    by_cases c : g = gm k
    · rw [if_pos c]
      constructor
      · intro h; cases h; exact ⟨by omega, c.symm⟩
      · intro h
        have := hd.2.2 j k (by omega) (by omega) (by rw [h.2, c])
        rw [this]
    · rw [if_neg c, pof_some hd (by omega)]
      constructor
      · intro h; exact ⟨by omega, h.2⟩
      · intro h
        refine ⟨?_, h.2⟩
        by_cases e : j = k
        · subst e; exact absurd h.2.symm c
        · omega
theorem pof_none {gm : Nat → Nat} : ∀ {k g : Nat}, pof gm k g = none ↔ gn gm k g = false
  | 0, g => by simp [pof, gn]
  | k + 1, g => by
    rw [pof, gn]
    by_cases c : g = gm k
    · rw [if_pos c]; simp [c]
    · rw [if_neg c, pof_none, beq_false_of_ne c, Bool.or_false]
theorem pof_lt {gm : Nat → Nat} : ∀ {k g j : Nat}, pof gm k g = some j → j < k ∧ gm j = g
  | 0, g, j, h => by simp [pof] at h
  | k + 1, g, j, h => by
    rw [pof] at h
    by_cases c : g = gm k
    · rw [if_pos c] at h; cases h; exact ⟨by omega, c.symm⟩
    · rw [if_neg c] at h; have := pof_lt h; exact ⟨by omega, this.2⟩
theorem placeOf_eq {N n g : Nat} {cm : Nat → Nat} {bytes : Nat → Int32} (hN : 20 < N) (hd : DG n cm) (ht : TG n cm bytes) (hg : g < 10) : fX4_placeOf N bytes (nI n) (nI g) = some (pI (pof cm n g)) := by
  have hn := hd.1
  unfold fX4_placeOf
  obtain ⟨z, hz, e⟩ := lp_for (b := bX4_placeOf_2 N bytes (nI n) (nI g)) n (fun k s => s = nI k ∧ gn cm k g = false) (fun z => z = some (pI (pof cm n g)))
    (fun k s hk hp => by
      obtain ⟨rfl, h1⟩ := hp
      have hc := hd.2.1 k hk
      by_cases c : cm k = g
      · right
        refine ⟨_, rfl, fun κ => ?_⟩
        unfold bX4_placeOf_2
        rw [if_neg (by rw [nI_leI (by omega) (by omega)]; omega), guestAt_eq hd ht hk, Option.bind_some, c, if_pos rfl, (pof_some hd (Nat.le_refl _)).mpr ⟨hk, c⟩]
        rfl
      · left
        refine ⟨_, ⟨rfl, by rw [gn, h1, beq_false_of_ne (fun z => c z.symm)]; rfl⟩, fun κ => ?_⟩
        unfold bX4_placeOf_2
        rw [if_neg (by rw [nI_leI (by omega) (by omega)]; omega), guestAt_eq hd ht hk, Option.bind_some, if_neg (by rw [nI_eq (by omega) (by omega)]; exact c), nI_1])
    (fun s hp => by
      obtain ⟨rfl, h1⟩ := hp
      refine ⟨_, rfl, fun κ => ?_⟩
      unfold bX4_placeOf_2
      rw [if_pos (by rw [nI_leI (by omega) (by omega)]; omega), pof_none.mpr h1]
      rfl)
    (k := 0) (s := 0) (N := N) (by omega) ⟨rfl, rfl⟩ (by omega)
  rw [e, hz]
section WH
variable {n ng : Nat} {cm gm : Nat → Nat} {C : Nat → Bool}
theorem cnt_gn (hd : DG n cm) : ∀ {k : Nat}, k ≤ n → cnt (gn cm k) 10 = k
  | 0, _ => by
    rfl
  | k + 1, hk => by
    have e : cnt (gn cm (k + 1)) 10 = cnt (fun g => gn cm k g || (g == cm k)) 10 := cnt_congr (fun g _ => rfl)
    rw [e, cnt_ins (hd.2.1 k (by omega)) (gn_new hd (by omega)), cnt_gn hd (by omega)]
theorem cnt_split (A B : Nat → Bool) : ∀ m, (∀ g, g < m → B g = true → A g = true) → cnt (fun x => A x && !B x) m + cnt B m = cnt A m
  | 0, _ => rfl
  | m + 1, h => by
    have ih := cnt_split A B m (fun g hg => h g (by omega))
    have hm := h m (by omega)
    rw [cnt, cnt, cnt]
    cases qa : A m <;> cases qb : B m
    · simp; omega
    · rw [qb] at hm; rw [qa] at hm; exact absurd (hm rfl) (by decide)
    · simp; omega
    · simp; omega
theorem cnt_le_of : ∀ {m k : Nat} {S : Nat → Bool}, m ≤ k → cnt S m ≤ cnt S k
  | m, 0, S, h => by rw [show m = 0 by omega]; exact Nat.le_refl _
  | m, k + 1, S, h => by
    by_cases e : m = k + 1
    · rw [e]; exact Nat.le_refl _
    · rw [cnt]; have := cnt_le_of (S := S) (show m ≤ k by omega); omega
/-- goings are comers' -/
def GC (C : Nat → Bool) (ng : Nat) (gm : Nat → Nat) : Prop := ∀ k, k < ng → C (gm k) = true
theorem wh_lt (hd : DG n cm) (hg : DG ng gm) (hC : ∀ g, C g = gn cm n g) (hgc : GC C ng gm) {g : Nat} (h10 : g < 10) (hc : C g = true) : wh C gm ng g < n := by
  have hsub : ∀ x, x < 10 → gn gm ng x = true → C x = true := by
    intro x _ hx
    obtain ⟨j, h1, h2⟩ := gn_iff.mp hx
    rw [h2]; exact hgc j h1
  have e1 := cnt_split C (gn gm ng) 10 hsub
  rw [cnt_gn hg (Nat.le_refl _), cnt_congr (T := gn cm n) (S := C) (fun x _ => hC x), cnt_gn hd (Nat.le_refl _)] at e1
  unfold wh
  cases q : pof gm ng g with
  | some j =>
    have := (pof_lt q).1
    show j < n
    omega
  | none =>
    have h2 := pof_none.mp q
    have h3 : cnt (fun x => C x && !gn gm ng x) (g + 1) ≤ cnt (fun x => C x && !gn gm ng x) 10 := cnt_le_of (by omega)
    rw [cnt, if_pos (by rw [hc, h2]; rfl)] at h3
    show ng + cnt (fun x => C x && !gn gm ng x) g < n
    omega
theorem wh_inj (hg : DG ng gm) {a b : Nat} (ha : C a = true) (hb : C b = true) (e : wh C gm ng a = wh C gm ng b) : a = b := by
  have key : ∀ a b : Nat, C a = true → pof gm ng a = none → a < b → cnt (fun x => C x && !gn gm ng x) a < cnt (fun x => C x && !gn gm ng x) b := by
    intro a b ha qa hab
    have h3 : cnt (fun x => C x && !gn gm ng x) (a + 1) ≤ cnt (fun x => C x && !gn gm ng x) b := cnt_le_of (by omega)
    rw [cnt, if_pos (by rw [ha, pof_none.mp qa]; rfl)] at h3
    omega
  unfold wh at e
  cases qa : pof gm ng a with
  | some i =>
    cases qb : pof gm ng b with
    | some j =>
      rw [qa, qb] at e
      have e : i = j := e
      rw [← (pof_lt qa).2, ← (pof_lt qb).2, e]
    | none =>
      rw [qa, qb] at e
      have e : i = ng + _ := e
      have := (pof_lt qa).1
      omega
  | none =>
    cases qb : pof gm ng b with
    | some j =>
      rw [qa, qb] at e
      have e : ng + _ = j := e
      have := (pof_lt qb).1
      omega
    | none =>
      rw [qa, qb] at e
      have e : ng + cnt (fun x => C x && !gn gm ng x) a = ng + cnt (fun x => C x && !gn gm ng x) b := e
      rcases Nat.lt_trichotomy a b with c | c | c
      · have := key a b ha qa c; omega
      · exact c
      · have := key b a hb qb c; omega
end WH
theorem order_eq {N n ng : Nat} {cm gm : Nat → Nat} {C : Nat → Bool} {gt lf b0 b1 : Nat → Int32} {many : Int32} (hN : 20 < N) (hd : DG n cm) (hg : DG ng gm) (hC : ∀ g, C g = gn cm n g) (hgc : GC C ng gm) (ht0 : TG n cm b0) (ht1 : TG ng gm b1) :
    ∃ gt' lf' : Nat → Int32, fX0_order N many gt lf b0 (nI n) b1 (nI ng) = some (nI n, gt', lf') ∧ (∀ k, k < n → gt' k = nI (wh C gm ng (cm k))) ∧ ∀ k, k < n → lf' k = M (fun j => decide (j < k) && decide (wh C gm ng (cm j) < wh C gm ng (cm k))) := by
  have hn := hd.1
  have hn2 := hg.1
  have hwl : ∀ k, k < n → wh C gm ng (cm k) < n := fun k hk => wh_lt hd hg hC hgc (hd.2.1 k hk) (by rw [hC]; exact gn_iff.mpr ⟨k, hk, rfl⟩)
  -- the last loops
  have last : ∀ gt : Nat → Int32, (∀ k, k < n → gt k = nI (wh C gm ng (cm k))) → ∃ z, (∃ lf' : Nat → Int32, z = some (nI n, gt, lf') ∧ ∀ k, k < n → lf' k = M (fun j => decide (j < k) && decide (wh C gm ng (cm j) < wh C gm ng (cm k)))) ∧ lp (bX0_order_89 N b0 (nI n) b1 (nI ng) (nI n) gt) N (0, lf) = z := by
    intro gt hgt
    refine lp_for (b := bX0_order_89 N b0 (nI n) b1 (nI ng) (nI n) gt) n (fun k s => ∃ lf : Nat → Int32, s = (nI k, lf) ∧ ∀ i, i < k → lf i = M (fun j => decide (j < i) && decide (wh C gm ng (cm j) < wh C gm ng (cm i)))) _
      (fun k s hk hp => ?_) (fun s hp => ?_) (k := 0) (by omega) ⟨lf, rfl, fun i hi => by omega⟩ (by omega)
    · obtain ⟨lf, rfl, h1⟩ := hp
      left
      have hwk := hwl k hk
      have inner : ∀ κ, ∃ z, (z = κ (nI (k + 1), upd lf k (M (fun j => decide (j < k) && decide (wh C gm ng (cm j) < wh C gm ng (cm k)))))) ∧ lp (bX0_order_109 N b0 (nI n) b1 (nI ng) (nI n) gt κ (nI k)) N (0, upd lf k 0) = z := by
        intro κ
        refine lp_for (b := bX0_order_109 N b0 (nI n) b1 (nI ng) (nI n) gt κ (nI k)) k (fun j s => s = (nI j, upd lf k (M (fun i => decide (i < j) && decide (wh C gm ng (cm i) < wh C gm ng (cm k)))))) _
          (fun j s hj hp => ?_) (fun s hp => ?_) (k := 0) (by omega) (by rw [show M (fun i => decide (i < 0) && decide (wh C gm ng (cm i) < wh C gm ng (cm k))) = 0 from by rw [M_none]; exact M_congr (fun x _ => by simp)]; rfl) (by omega)
        · subst hp
          left
          have hwj := hwl j (by omega)
          refine ⟨_, rfl, fun κ2 => ?_⟩
          unfold bX0_order_109 bX0_order_148
          simp only
          rw [if_neg (by rw [nI_leI (by omega) (by omega)]; omega), if_pos (chk_nI (by omega) (by omega)), if_pos (chk_nI (by omega) (by omega)), nI_clamp (by omega), nI_clamp (by omega), hgt k hk, hgt j (by omega), if_pos (chk_nI (by omega) (by omega)), bit_in (show j < 10 by omega), Option.bind_some, if_pos (chk_nI (by omega) (by omega)), nI_1, pk_us, M_or]
          have uu : ∀ a b : Int32, upd (upd lf k a) k b = upd lf k b := fun a b => by funext x; unfold upd; by_cases e : x = k <;> simp [e]
          rw [uu]
          by_cases c : wh C gm ng (cm k) ≤ wh C gm ng (cm j)
          · rw [if_pos (by rw [nI_leI (by omega) (by omega)]; exact c)]
            refine congrArg (fun z => κ2 (nI (j + 1), upd lf k z)) (M_congr (fun x _ => ?_))
            by_cases e : x = j
            · subst e; simp [c]
            · rw [show decide (x < j + 1) = decide (x < j) by simp; omega]
          · rw [if_neg (by rw [nI_leI (by omega) (by omega)]; exact c)]
            refine congrArg (fun z => κ2 (nI (j + 1), upd lf k z)) (M_congr (fun x _ => ?_))
            by_cases e : x = j
            · subst e; simp; omega
            · rw [show decide (x < j + 1) = decide (x < j) by simp; omega, beq_false_of_ne e, Bool.or_false]
        · subst hp
          refine ⟨_, rfl, fun κ2 => ?_⟩
          unfold bX0_order_109
          simp only
          rw [if_pos (by rw [nI_leI (by omega) (by omega)]; omega), nI_1]
      refine ⟨(nI (k + 1), upd lf k (M (fun j => decide (j < k) && decide (wh C gm ng (cm j) < wh C gm ng (cm k))))), ⟨_, rfl, fun i hi => ?_⟩, fun κ => ?_⟩
      · unfold upd
        by_cases e : i = k
        · rw [if_pos e, e]
        · rw [if_neg e]; exact h1 i (by omega)
      · obtain ⟨z, hz, e⟩ := inner κ
        unfold bX0_order_89
        simp only
        rw [if_neg (by rw [nI_leI (by omega) (by omega)]; omega), if_pos (chk_nI (by omega) (by omega)), nI_clamp (by omega), e, hz]
    · obtain ⟨lf, rfl, h1⟩ := hp
      refine ⟨_, ⟨lf, rfl, h1⟩, fun κ => ?_⟩
      unfold bX0_order_89
      simp only
      rw [if_pos (by rw [nI_leI (by omega) (by omega)]; omega)]
  unfold fX0_order
  obtain ⟨z, hz, e⟩ := lp_for (b := bX0_order_16 N b0 (nI n) b1 (nI ng) (nI n) lf) 10 (fun g s => ∃ gt : Nat → Int32, s = (nI (ng + cnt (fun x => C x && !gn gm ng x) g), nI g, gt) ∧ ∀ k, k < n → cm k < g → gt k = nI (wh C gm ng (cm k)))
    (fun z => ∃ gt' lf' : Nat → Int32, z = some (nI n, gt', lf') ∧ (∀ k, k < n → gt' k = nI (wh C gm ng (cm k))) ∧ ∀ k, k < n → lf' k = M (fun j => decide (j < k) && decide (wh C gm ng (cm j) < wh C gm ng (cm k))))
    (fun g s hk hp => by
      obtain ⟨gt, rfl, h1⟩ := hp
      left
      have hcl : cnt (fun x => C x && !gn gm ng x) g ≤ g := cnt_le _ _
      have base : ∀ κ, bX0_order_16 N b0 (nI n) b1 (nI ng) (nI n) lf κ (nI (ng + cnt (fun x => C x && !gn gm ng x) g), nI g, gt) = (if pI (pof cm n g) = -1 then bX0_order_63 N b0 (nI n) b1 (nI ng) (nI n) lf κ (nI (ng + cnt (fun x => C x && !gn gm ng x) g)) (nI g) (pI (pof cm n g)) gt else (if pI (pof gm ng g) = -1 then bX0_order_63 N b0 (nI n) b1 (nI ng) (nI n) lf κ (nI (ng + cnt (fun x => C x && !gn gm ng x) g)) (nI g) (pI (pof cm n g)) gt else if chk (pI (pof cm n g)) 10 = true then bX0_order_80 N b0 (nI n) b1 (nI ng) (nI n) lf κ (nI (ng + cnt (fun x => C x && !gn gm ng x) g)) (nI g) (upd gt (Int32.toNatClampNeg (pI (pof cm n g))) (pI (pof gm ng g))) else none)) := by
        intro κ
        unfold bX0_order_16
        simp only
        rw [if_neg (by rw [li10, nI_leI (by omega) (by omega)]; omega), placeOf_eq hN hd ht0 hk, Option.bind_some, placeOf_eq hN hg ht1 hk, Option.bind_some]
      cases q : pof cm n g with
      | none =>
        have hcg : C g = false := by rw [hC]; exact pof_none.mp q
        refine ⟨_, ⟨gt, rfl, fun k hk1 hk2 => h1 k hk1 ?_⟩, fun κ => ?_⟩
        · rcases Nat.lt_or_ge (cm k) g with c | c
          · exact c
          · have e1 : cm k = g := by omega
            have := gn_iff.mpr ⟨k, hk1, e1.symm⟩
            rw [← hC, hcg] at this; cases this
        · rw [base, q, show pI none = -1 from rfl, if_pos rfl]
          unfold bX0_order_63 bX0_order_80
          rw [if_pos rfl, nI_1, cnt, hcg]
          rfl
      | some p =>
        obtain ⟨p1, p2⟩ := pof_lt q
        have hcg : C g = true := by rw [hC]; exact gn_iff.mpr ⟨p, p1, p2.symm⟩
        have hp1 : ¬ pI (some p) = -1 := m1_ne (by omega)
        have upk : ∀ v : Int32, v = nI (wh C gm ng g) → ∀ k, k < n → cm k < g + 1 → upd gt p v k = nI (wh C gm ng (cm k)) := by
          intro v hv k k1 k2
          unfold upd
          by_cases e : k = p
          · rw [if_pos e, hv, e, p2]
          · rw [if_neg e]
            refine h1 k k1 ?_
            rcases Nat.lt_or_ge (cm k) g with c | c
            · exact c
            · exact absurd (hd.2.2 k p k1 p1 (by rw [p2]; omega)) e
        cases q2 : pof gm ng g with
        | none =>
          have hng := pof_none.mp q2
          refine ⟨_, ⟨upd gt p (nI (ng + cnt (fun x => C x && !gn gm ng x) g)), rfl, upk _ (by unfold wh; rw [q2])⟩, fun κ => ?_⟩
          rw [base, q, q2, if_neg hp1, show pI none = -1 from rfl, if_pos rfl]
          unfold bX0_order_63 bX0_order_80
          rw [if_neg hp1, show pI (some p) = nI p from rfl, if_pos (chk_nI (by omega) (by omega)), nI_clamp (by omega), nI_1, nI_1, cnt, hcg, hng]
          rfl
        | some j =>
          obtain ⟨j1, j2⟩ := pof_lt q2
          have hng : gn gm ng g = true := gn_iff.mpr ⟨j, j1, j2.symm⟩
          refine ⟨_, ⟨upd gt p (nI j), rfl, upk _ (by unfold wh; rw [q2])⟩, fun κ => ?_⟩
          rw [base, q, q2, if_neg hp1, show pI (some j) = nI j from rfl, if_neg (m1_ne (show j < 2 ^ 31 by omega)), show pI (some p) = nI p from rfl, if_pos (chk_nI (by omega) (by omega)), nI_clamp (by omega)]
          unfold bX0_order_80
          rw [nI_1, cnt, hcg, hng]
          rfl)
    (fun s hp => by
      obtain ⟨gt, rfl, h1⟩ := hp
      obtain ⟨z, ⟨lf', a1, a2⟩, e⟩ := last gt (fun k hk => h1 k hk (hd.2.1 k hk))
      refine ⟨z, ⟨gt, lf', a1, fun k hk => h1 k hk (hd.2.1 k hk), a2⟩, fun κ => ?_⟩
      unfold bX0_order_16
      simp only
      rw [if_pos (by rw [li10, nI_leI (by omega) (by omega)]; omega)]
      exact e)
    (k := 0) (s := (nI ng, 0, gt)) (N := N) (by omega) ⟨gt, rfl, fun k _ h => by omega⟩ (by omega)
  obtain ⟨gt', lf', a1, a2, a3⟩ := hz
  exact ⟨gt', lf', by rw [e, a1], a2, a3⟩
theorem goesEach_loop {N n ng : Nat} {cm gm : Nat → Nat} {C : Nat → Bool} {typed texts coming going worn wn : Nat → Int32} {wears : Int32} (hN : 20 < N) (hd : DG n cm) (hg : DG ng gm) (hC : ∀ g, C g = gn cm n g) (hgc : GC C ng gm) (hgo : CA ng gm going) :
    ∃ w : Nat → Int32, lp (bX7_goesEach_13 N typed texts (nI n) coming (M C) (nI ng) going wears worn) N (0, M C, 0, wn) = some (nI n, coming, M C, nI ng, going, wears, worn, w) ∧ ∀ g, g < 10 → C g = true → w g = nI (wh C gm ng g) := by
  have hn := hd.1
  have hn2 := hg.1
  have second : ∀ w : Nat → Int32, (∀ j, j < ng → w (gm j) = nI j) → ∃ z, (∃ w' : Nat → Int32, z = some (nI n, coming, M C, nI ng, going, wears, worn, w') ∧ ∀ g, g < 10 → C g = true → w' g = nI (wh C gm ng g)) ∧ lp (bX7_goesEach_57 N typed texts (M (fun x => C x && !gn gm ng x)) (nI n) coming (M C) (nI ng) going wears worn) N (nI ng, 0, w) = z := by
    intro w hw
    refine lp_for (b := bX7_goesEach_57 N typed texts (M (fun x => C x && !gn gm ng x)) (nI n) coming (M C) (nI ng) going wears worn) 10 (fun g s => ∃ w' : Nat → Int32, s = (nI (ng + cnt (fun x => C x && !gn gm ng x) g), nI g, w') ∧ (∀ j, j < ng → w' (gm j) = nI j) ∧ ∀ x, x < g → C x = true → w' x = nI (wh C gm ng x)) _
      (fun g s hk hp => ?_) (fun s hp => ?_) (k := 0) (by omega) ⟨w, rfl, hw, fun x hx => by omega⟩ (by omega)
    · obtain ⟨w', rfl, h1, h2⟩ := hp
      have hcl : cnt (fun x => C x && !gn gm ng x) g ≤ g := cnt_le _ _
      left
      by_cases c : (C g && !gn gm ng g) = true
      · have c' := c
        simp only [Bool.and_eq_true, Bool.not_eq_true'] at c'
        refine ⟨_, ⟨upd w' g (nI (ng + cnt (fun x => C x && !gn gm ng x) g)), rfl, fun j hj => ?_, fun x hx hcx => ?_⟩, fun κ => ?_⟩
        · unfold upd
          rw [if_neg, h1 j hj]
          intro e
          have := gn_iff.mpr ⟨j, hj, e.symm⟩
          rw [c'.2] at this; cases this
        · unfold upd
          by_cases e : x = g
          · rw [if_pos e, e]; unfold wh; rw [pof_none.mpr c'.2]
          · rw [if_neg e]; exact h2 x (by omega) hcx
        · unfold bX7_goesEach_57 bX7_goesEach_81
          simp only
          rw [if_neg (by rw [li10, nI_leI (by omega) (by omega)]; omega), isIn_M hk, Option.bind_some, if_pos c, if_neg (by decide), if_pos (chk_nI hk (by omega)), nI_clamp (by omega), nI_1, nI_1, cnt, if_pos c]
          rfl
      · refine ⟨_, ⟨w', rfl, h1, fun x hx hcx => ?_⟩, fun κ => ?_⟩
        · by_cases e : x = g
          · subst e
            have hgn : gn gm ng x = true := by
              cases q : gn gm ng x with
              | true => rfl
              | false => rw [hcx, q] at c; exact absurd rfl c
            obtain ⟨j, j1, j2⟩ := gn_iff.mp hgn
            have hp : pof gm ng x = some j := (pof_some hg (Nat.le_refl _)).mpr ⟨j1, j2.symm⟩
            rw [j2, h1 j j1, ← j2]; unfold wh; rw [hp]
          · exact h2 x (by omega) hcx
        · unfold bX7_goesEach_57 bX7_goesEach_81
          simp only
          rw [if_neg (by rw [li10, nI_leI (by omega) (by omega)]; omega), isIn_M hk, Option.bind_some, if_neg c, if_pos rfl, nI_1, cnt, if_neg c]
          rfl
    · obtain ⟨w', rfl, h1, h2⟩ := hp
      refine ⟨_, ⟨w', rfl, h2⟩, fun κ => ?_⟩
      unfold bX7_goesEach_57
      simp only
      rw [if_pos (by rw [li10, nI_leI (by omega) (by omega)]; omega)]
  obtain ⟨z, hz, e⟩ := lp_for (b := bX7_goesEach_13 N typed texts (nI n) coming (M C) (nI ng) going wears worn) ng (fun k s => ∃ w : Nat → Int32, s = (nI k, M (fun x => C x && !gn gm k x), nI k, w) ∧ ∀ j, j < k → w (gm j) = nI j)
    (fun z => ∃ w : Nat → Int32, z = some (nI n, coming, M C, nI ng, going, wears, worn, w) ∧ ∀ g, g < 10 → C g = true → w g = nI (wh C gm ng g))
    (fun k s hk hp => by
      obtain ⟨w, rfl, h1⟩ := hp
      have hc := hg.2.1 k hk
      left
      refine ⟨(nI (k + 1), M (fun x => C x && !gn gm (k + 1) x), nI (k + 1), upd w (gm k) (nI k)), ⟨_, rfl, fun j hj => ?_⟩, fun κ => ?_⟩
      · unfold upd
        by_cases e : j = k
        · rw [e, if_pos rfl]
        · rw [if_neg (fun z => e (hg.2.2 j k (by omega) hk z))]; exact h1 j (by omega)
      · unfold bX7_goesEach_13 nm
        simp only
        rw [if_neg (by rw [nI_leI (by omega) (by omega)]; omega), if_pos (chk_nI (by omega) (by omega)), nI_clamp (by omega), hgo k hk, if_pos (chk_nI hc (by omega)), if_pos (chk_nI (by omega) (by omega)), nI_clamp (by omega), M_bit _ hc, M_andn, nI_1]
        refine congrArg (fun z => κ (nI (k + 1), z, _)) (M_congr (fun x _ => ?_))
        rw [gn]
        cases C x <;> cases gn gm k x <;> simp)
    (fun s hp => by
      obtain ⟨w, rfl, h1⟩ := hp
      obtain ⟨z, hz, e⟩ := second w h1
      refine ⟨z, hz, fun κ => ?_⟩
      unfold bX7_goesEach_13
      simp only
      rw [if_pos (by rw [nI_leI (by omega) (by omega)]; omega)]
      exact e)
    (k := 0) (s := (0, M C, 0, wn)) (N := N) (by omega) ⟨wn, by refine congrArg (fun z => ((0 : Int32), z, _)) (M_congr (fun x _ => by simp [gn])), fun j hj => by omega⟩ (by omega)
  obtain ⟨w, a1, a2⟩ := hz
  exact ⟨w, by rw [e, a1], a2⟩

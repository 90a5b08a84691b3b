/-! ===== least: class ===== -/
def sv (t : Nat) : Nat := if t < 7 then t else 7
theorem sv_le (t : Nat) : sv t ≤ 7 := by unfold sv; split <;> omega
theorem sv_le' (t : Nat) : sv t ≤ t := by unfold sv; split <;> omega
theorem firstOnes_eq {t : Nat} (h : t ≤ 10) : fX0_firstOnes (nI t) = some (nI (sv t)) := by
  unfold fX0_firstOnes sv
  rw [li7]
  by_cases c : t < 7
  · rw [if_neg (by rw [nI_ltI (by omega) (by omega)]; omega), if_pos c]
  · rw [if_neg c]
    by_cases d : 7 < t
    · rw [if_pos (by rw [nI_ltI (by omega) (by omega)]; omega)]
    · rw [if_neg (by rw [nI_ltI (by omega) (by omega)]; omega), show t = 7 by omega]
theorem seven_eq {t : Nat} (h : t ≤ 10) : fX7_seven (nI t) = some (nI (sv t)) := by
  unfold fX7_seven sv
  rw [li7]
  by_cases c : t < 7
  · rw [if_neg (by rw [nI_leI (by omega) (by omega)]; omega), if_pos c]
  · rw [if_neg c, if_pos (by rw [nI_leI (by omega) (by omega)]; omega)]
theorem keepLeast_eq {N : Nat} {ra lr : Nat → Int32} {L S : Int32} (hN : 20 < N) : ∃ lr' : Nat → Int32, fX0_keepLeast N ra lr L S = some (lr', S) ∧ ∀ i, i < 7 → lr' i = ra i := by
  unfold fX0_keepLeast
  obtain ⟨z, hz, e⟩ := lp_for (b := bX0_keepLeast_7 N ra S S) 7 (fun j s => ∃ lr' : Nat → Int32, s = (nI j, lr') ∧ ∀ i, i < j → lr' i = ra i) (fun z => ∃ lr' : Nat → Int32, z = some (lr', S) ∧ ∀ i, i < 7 → lr' i = ra i)
    (fun j s hj hp => by
      obtain ⟨lr', rfl, h1⟩ := hp
      left
      refine ⟨(nI (j + 1), upd lr' j (ra j)), ⟨_, rfl, fun i hi => ?_⟩, fun κ => ?_⟩
      · unfold upd
        by_cases c : i = j
        · rw [if_pos c, c]
        · rw [if_neg c]; exact h1 i (by omega)
      · unfold bX0_keepLeast_7
        simp only
        rw [if_neg (by rw [li7, nI_leI (by omega) (by omega)]; omega), if_pos (chk_nI (by omega) (by omega)), if_pos (chk_nI (by omega) (by omega)), nI_clamp (by omega), nI_1])
    (fun s hp => by
      obtain ⟨lr', rfl, h1⟩ := hp
      refine ⟨_, ⟨lr', rfl, h1⟩, fun κ => ?_⟩
      unfold bX0_keepLeast_7
      simp only
      rw [if_pos (by rw [li7, nI_leI (by omega) (by omega)]; omega)])
    (k := 0) (s := (0, lr)) (N := N) (by omega) ⟨lr, rfl, fun i hi => by omega⟩ (by omega)
  obtain ⟨lr', a1, a2⟩ := hz
  exact ⟨lr', by rw [e, a1], a2⟩
def inR (x : Nat → Nat) (p r : Nat) : Nat → Bool := fun j => decide (j < p) && (x j == r)
theorem tryRows_ind {N k m : Nat} {ga : Nat → Nat} {many : Int32} {lft : Nat → Int32} (hN : 20 < N) (hk1 : 1 ≤ k) (hk : k ≤ 3) (hm : m ≤ 7) (hfo : fX0_firstOnes many = some (nI m)) (hl : ∀ i, i < m → lft i = M (fun j => decide (j < i) && decide (ga j < ga i))) :
    ∀ (d p U L : Nat) (x0 : Nat → Nat) (ra lr ir : Nat → Int32), m - p < d → p ≤ m → (∀ j, j < p → x0 j < U) → U ≤ k → L ≤ 100 → (∀ i, i < p → ra i = nI (x0 i)) → (∀ r, r < 10 → ir r = M (inR x0 p r)) →
      ∃ (ra' lr' ir' : Nat → Int32) (L' : Nat), lp (fun rec q => gX0_tryRows N many lft rec q.1 q.2.1 q.2.2.1 q.2.2.2.1 q.2.2.2.2.1 q.2.2.2.2.2.1 q.2.2.2.2.2.2.1 q.2.2.2.2.2.2.2) d (ra, lr, ir, nI L, nI k, nI p, nI U, nI (csx ga x0 p)) = some (ra', lr', ir', nI L') ∧ (∀ i, i < p → ra' i = nI (x0 i)) ∧ (∀ r, r < 10 → ir' r = M (inR x0 p r)) ∧ L' ≤ L ∧ PO ga k m (Cp k m x0 p) L lr L' lr'
  | 0, p, U, L, x0, ra, lr, ir, h, _, _, _, _, _, _ => by omega
  | d + 1, p, U, L, x0, ra, lr, ir, hd, hp, hU, hUk, hL, hra, hir => by
    have hcs := csx_le ga x0 p
    rw [lp_s]
    show ∃ (ra' lr' ir' : Nat → Int32) (L' : Nat), gX0_tryRows N many lft (lp (fun rec q => gX0_tryRows N many lft rec q.1 q.2.1 q.2.2.1 q.2.2.2.1 q.2.2.2.2.1 q.2.2.2.2.2.1 q.2.2.2.2.2.2.1 q.2.2.2.2.2.2.2) d) ra lr ir (nI L) (nI k) (nI p) (nI U) (nI (csx ga x0 p)) = some (ra', lr', ir', nI L') ∧ _
    have ih := tryRows_ind (N := N) (k := k) (m := m) (ga := ga) (many := many) (lft := lft) hN hk1 hk hm hfo hl d
    generalize hrec : (lp (fun rec q => gX0_tryRows N many lft rec q.1 q.2.1 q.2.2.1 q.2.2.2.1 q.2.2.2.2.1 q.2.2.2.2.2.1 q.2.2.2.2.2.2.1 q.2.2.2.2.2.2.2) d) = rec at ih
    unfold gX0_tryRows
    by_cases c1 : csx ga x0 p < L
    · rw [if_pos (by rw [nI_ltI (by omega) (by omega)]; exact c1), hfo, Option.bind_some]
      by_cases c2 : p < m
      · rw [if_pos (by rw [nI_ltI (by omega) (by omega)]; exact c2)]
        -- the rows that are tried
        obtain ⟨T, hT⟩ : ∃ T, T = if k ≤ U + 1 then k else U + 1 := ⟨_, rfl⟩
        have hTk : T ≤ k ∧ T ≤ U + 1 ∧ (T = k ∨ (T = U + 1 ∧ T < k)) := by
          rw [hT]
          by_cases z : k ≤ U + 1
          · rw [if_pos z]; omega
          · rw [if_neg z]; omega
        obtain ⟨z, hz, e⟩ := lp_for (b := bX0_tryRows_28 N many lft (nI k) (nI p) (nI U) (nI (csx ga x0 p)) rec) T
          (fun R s => ∃ (ra' lr' ir' : Nat → Int32) (L' : Nat), s = (nI R, ra', lr', ir', nI L') ∧ (∀ i, i < p → ra' i = nI (x0 i)) ∧ (∀ r, r < 10 → ir' r = M (inR x0 p r)) ∧ L' ≤ L ∧ PO ga k m (fun y => Cp k m x0 p y ∧ y p < R) L lr L' lr')
          (fun z => ∃ (ra' lr' ir' : Nat → Int32) (L' : Nat), z = some (ra', lr', ir', nI L') ∧ (∀ i, i < p → ra' i = nI (x0 i)) ∧ (∀ r, r < 10 → ir' r = M (inR x0 p r)) ∧ L' ≤ L ∧ PO ga k m (Cp k m x0 p) L lr L' lr')
          (fun R s hR hp => by
            obtain ⟨ra1, lr1, ir1, L1, rfl, h1, h2, h3, h4⟩ := hp
            left
            have hRk : R < k := by omega
            -- the laying gone on by row R
            obtain ⟨x1, hx1⟩ : ∃ x1 : Nat → Nat, x1 = fun i => if i = p then R else x0 i := ⟨_, rfl⟩
            have x1p : x1 p = R := by rw [hx1]; simp
            have x1n : ∀ i, i ≠ p → x1 i = x0 i := fun i hi => by rw [hx1]; simp [hi]
            obtain ⟨U1, hU1⟩ : ∃ U1, U1 = if U < R + 1 then R + 1 else U := ⟨_, rfl⟩
            have hU1b : U1 ≤ k ∧ U ≤ U1 ∧ R < U1 := by
              rw [hU1]; by_cases z : U < R + 1
              · rw [if_pos z]; omega
              · rw [if_neg z]; omega
            have hir1 : ∀ r, r < 10 → upd ir1 R (M (fun j => inR x0 p R j || (j == p))) r = M (inR x1 (p + 1) r) := by
              intro r hr
              unfold upd
              by_cases c : r = R
              · rw [if_pos c, c]
                refine M_congr (fun j _ => ?_)
                unfold inR
                by_cases c3 : j = p
                · rw [c3, x1p]; simp
                · rw [x1n j c3, beq_false_of_ne c3, Bool.or_false]
                  congr 1
                  simp; omega
              · rw [if_neg c, h2 r hr]
                refine M_congr (fun j _ => ?_)
                unfold inR
                by_cases c3 : j = p
                · rw [c3, x1p, beq_false_of_ne (fun z => c z.symm)]; simp
                · rw [x1n j c3]
                  congr 1
                  simp; omega
            have hcs1 : csx ga x0 p + lcx ga x1 p = csx ga x1 (p + 1) := by
              rw [csx, csx_congr (x := x1) (y := x0) (fun j hj => x1n j (by omega))]
            obtain ⟨ra2, lr2, ir2, L2, e1, e2, e3, e4, e5⟩ := ih (p + 1) U1 L1 x1 (upd ra1 p (nI R)) lr1 (upd ir1 R (M (fun j => inR x0 p R j || (j == p)))) (by omega) (by omega)
              (fun j hj => by
                by_cases c : j = p
                · rw [c, x1p]; omega
                · rw [x1n j c]; have := hU j (by omega); omega)
              hU1b.1 (by omega)
              (fun i hi => by
                unfold upd
                by_cases c : i = p
                · rw [if_pos c, c, x1p]
                · rw [if_neg c, x1n i c]; exact h1 i (by omega))
              hir1
            refine ⟨(nI (R + 1), ra2, lr2, upd ir2 R (M (inR x0 p R)), nI L2), ⟨ra2, lr2, _, L2, rfl, fun i hi => ?_, fun r hr => ?_, by omega, ?_⟩, fun κ => ?_⟩
            · rw [e2 i (by omega), x1n i (by omega)]
            · unfold upd
              by_cases c : r = R
              · rw [if_pos c, c]
              · rw [if_neg c, e3 r hr]
                refine M_congr (fun j _ => ?_)
                unfold inR
                by_cases c3 : j = p
                · rw [c3, x1p, beq_false_of_ne (fun z => c z.symm)]; simp
                · rw [x1n j c3]
                  congr 1
                  simp; omega
            · rw [hx1] at e5
              exact PO_step c2 h4 e5
            · have hlw : fX0_liftedWith lft ir1 (nI p) (nI R) = some (nI (lcx ga x1 p)) := by
                unfold fX0_liftedWith
                rw [if_pos (chk_nI (by omega) (by omega)), if_pos (chk_nI (by omega) (by omega)), nI_clamp (by omega), nI_clamp (by omega), hl p c2, h2 R (by omega), M_and, bitCount_M, Option.bind_some]
                refine congrArg (fun z => some (nI z)) (cnt_congr (fun j _ => ?_))
                unfold inR
                by_cases c : j < p
                · rw [x1p, x1n j (by omega)]; simp [c]
                · simp [c]
              have hback : ir2 R &&& (M (fun x => x == p) ^^^ (-1)) = M (inR x0 p R) := by
                rw [e3 R (by omega), M_andn]
                refine M_congr (fun j _ => ?_)
                unfold inR
                by_cases c3 : j = p
                · rw [c3, x1p]; simp
                · rw [x1n j c3, beq_false_of_ne c3, Bool.not_false, Bool.and_true]
                  congr 1
                  simp; omega
              unfold bX0_tryRows_28 nm
              simp only
              rw [if_neg (by rw [nI_leI (by omega) (by omega)]; omega), if_neg (by rw [nI_ltI (by omega) (by omega)]; omega), hlw, Option.bind_some, if_pos (chk_nI (by omega) (by omega)), if_pos (chk_nI (show R < 10 by omega) (by omega)), bit_in (show p < 10 by omega), Option.bind_some, nI_clamp (show p < 2 ^ 31 by omega), nI_clamp (show R < 2 ^ 31 by omega), h2 R (by omega), M_or, nI_1, nI_1, nI_add, hcs1, ite_max _ _ _ (nI_ltI (by omega) (by omega)), ← hU1, if_pos (chk_nI (show R < 10 by omega) (by omega)), e1, Option.bind_some, if_pos (chk_nI (show R < 10 by omega) (by omega)), Option.bind_some, if_pos (chk_nI (show R < 10 by omega) (by omega)), hback])
          (fun s hp => by
            obtain ⟨ra1, lr1, ir1, L1, rfl, h1, h2, h3, h4⟩ := hp
            refine ⟨_, ⟨ra1, lr1, ir1, L1, rfl, h1, h2, h3, PO_end (U := U) c2 hU hTk.2.2 h4⟩, fun κ => ?_⟩
            unfold bX0_tryRows_28
            simp only
            by_cases c : k ≤ T
            · rw [if_pos (by rw [nI_leI (by omega) (by omega)]; exact c)]
            · rw [if_neg (by rw [nI_leI (by omega) (by omega)]; exact c), if_pos (by rw [nI_ltI (by omega) (by omega)]; omega)])
          (k := 0) (s := (0, ra, lr, ir, nI L)) (N := N) (by omega) ⟨ra, lr, ir, L, rfl, hra, hir, Nat.le_refl _, PO_init⟩ (by omega)
        obtain ⟨ra1, lr1, ir1, L1, a1, a2⟩ := hz
        exact ⟨ra1, lr1, ir1, L1, by rw [e, a1], a2⟩
      · have hpm : p = m := by omega
        obtain ⟨lr', e1, e2⟩ := keepLeast_eq (N := N) (ra := ra) (lr := lr) (L := nI L) (S := nI (csx ga x0 p)) hN
        rw [if_neg (by rw [nI_ltI (by omega) (by omega)]; exact c2), e1, Option.bind_some]
        refine ⟨ra, lr', ir, csx ga x0 p, rfl, hra, hir, by omega, ?_⟩
        subst hpm
        exact PO_leaf (fun i hi => by have := hU i hi; omega) rfl c1 (fun i hi => by rw [e2 i (by omega), hra i hi])
    · rw [if_neg (by rw [nI_ltI (by omega) (by omega)]; exact c1)]
      exact ⟨ra, lr, ir, L, rfl, hra, hir, Nat.le_refl _, PO_prune hp (by omega) (fun i _ => rfl)⟩
theorem findLeast_eq {N k m : Nat} {ga : Nat → Nat} {many ll : Int32} {lft ra lr ir fg : Nat → Int32} (hN : 20 < N) (hk1 : 1 ≤ k) (hk : k ≤ 3) (hm : m ≤ 7) (hfo : fX0_firstOnes many = some (nI m)) (hl : ∀ i, i < m → lft i = M (fun j => decide (j < i) && decide (ga j < ga i))) :
    ∃ (ra' lr' ir' fg' : Nat → Int32), fX0_findLeast N many lft ra lr ir fg ll (nI k) = some (nI (csx ga (dgt k m (bcode ga k m)) m), ra', lr', ir', fg', nI (csx ga (dgt k m (bcode ga k m)) m)) ∧ ∀ i, i < m → lr' i = nI (dgt k m (bcode ga k m) i) := by
  obtain ⟨a, b, e1, e2, e3⟩ := emptyRows_eq (N := N) (ir := ir) (fg := fg) hN
  obtain ⟨ra', lr', ir', L', f1, f2, f3, f4, f5⟩ := tryRows_ind (N := N) (k := k) (m := m) (ga := ga) (many := many) (lft := lft) hN hk1 hk hm hfo hl 9 0 0 100 (fun _ => 0) ra lr a (by omega) (by omega) (fun j hj => by omega) (by omega) (by omega) (fun i hi => by omega) (fun r hr => by rw [e2 r hr, M_none]; exact M_congr (fun j _ => by unfold inR; simp))
  obtain ⟨g1, g2⟩ := PO_code (by omega) f5 hm
  refine ⟨ra', lr', ir', b, ?_, g2⟩
  unfold fX0_findLeast fX0_tryRows
  rw [e1, Option.bind_some]
  simp only
  rw [show (100 : Int32) = nI 100 from rfl, show (0 : Int32) = nI 0 from rfl]
  rw [show csx ga (fun _ => 0) 0 = 0 from rfl] at f1
  rw [f1, Option.bind_some, g1]

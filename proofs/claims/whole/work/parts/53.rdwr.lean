/-! ===== read and write (printed by wip/gen/genrw.py) ===== -/
def pfx (P : Nat → Bool) : Nat → Nat
  | 0 => 0
  | k + 1 => if pfx P k = k ∧ P k = true then k + 1 else pfx P k
theorem pfx_le {P : Nat → Bool} : ∀ k, pfx P k ≤ k
  | 0 => Nat.le_refl _
  | k + 1 => by rw [pfx]; have := pfx_le (P := P) k; split <;> omega
theorem pfx_in {P : Nat → Bool} : ∀ {k i : Nat}, i < pfx P k → P i = true
  | 0, i, h => by rw [pfx] at h; omega
  | k + 1, i, h => by
    rw [pfx] at h
    by_cases c : pfx P k = k ∧ P k = true
    · rw [if_pos c] at h
      by_cases d : i = k
      · rw [d]; exact c.2
      · exact pfx_in (k := k) (by omega)
    · rw [if_neg c] at h; exact pfx_in h
theorem pfx_end {P : Nat → Bool} : ∀ k, pfx P k = k ∨ (pfx P k < k ∧ P (pfx P k) = false)
  | 0 => Or.inl rfl
  | k + 1 => by
    rw [pfx]
    by_cases c : pfx P k = k ∧ P k = true
    · rw [if_pos c]; exact Or.inl rfl
    · rw [if_neg c]
      right
      rcases pfx_end (P := P) k with h | ⟨h1, h2⟩
      · refine ⟨by omega, ?_⟩
        rw [h]
        cases q : P k with
        | false => rfl
        | true => exact absurd ⟨h, q⟩ c
      · exact ⟨by omega, h2⟩
def rdP (z : Nat) (f : Nat → Int32) (i : Nat) : Bool := decide (i < z) && decide (0 ≤ f i ∧ f i ≤ 9)
def rdT (tr : Nat → Nat → Nat) (f : Nat → Int32) (m : Nat) : Nat → Nat → Nat := fun w g => if w = 0 ∧ g < m then Int32.toNatClampNeg (f g) else tr w g
theorem rdP_iff {z : Nat} {f : Nat → Int32} {i : Nat} : rdP z f i = true ↔ i < z ∧ (0 ≤ f i ∧ f i ≤ 9) := by
  unfold rdP
  rw [Bool.and_eq_true, decide_eq_true_iff, decide_eq_true_iff]
theorem RTr_rd {tr : Nat → Nat → Nat} {a0 a1 a2 b0 f : Nat → Int32} {z m : Nat} (h : RTr tr a0 a1 a2) (hm : ∀ i, i < m → rdP z f i = true) (h1 : ∀ g, g < m → b0 g = f g) (h2 : ∀ g, g < 10 → m ≤ g → b0 g = a0 g) : RTr (rdT tr f m) b0 a1 a2 := by
  intro g hg
  obtain ⟨p1, p2, p3⟩ := h g hg
  refine ⟨?_, ?_, ?_⟩
  · unfold rdT
    by_cases c : g < m
    · rw [if_pos ⟨rfl, c⟩, h1 g c]
      obtain ⟨j, j1, j2⟩ := ncase (m := 9) (by decide) (rdP_iff.mp (hm g c)).2
      rw [j2, nI_clamp (by omega)]; exact ⟨rfl, by omega⟩
    · rw [if_neg (fun z => c z.2), h2 g hg (by omega)]; exact p1
  · unfold rdT
    rw [if_neg (fun z => absurd z.1 (by omega))]; exact p2
  · unfold rdT
    rw [if_neg (fun z => absurd z.1 (by omega))]; exact p3
def rdbody {X : Type} (items : Nat → Int32) (size : Int32) (F : Int32 → (Nat → Int32) → Option X) (κ : Int32 × (Nat → Int32) → Option X) (s : Int32 × (Nat → Int32)) : Option X :=
  (if (10 : Int32) ≤ s.1 then F s.1 s.2 else (if size ≤ s.1 then F s.1 s.2 else if chk s.1 48 = true then (fX6_within (items (Int32.toNatClampNeg s.1)) (0 : Int32) (stTM (Int32.toNatClampNeg (0 : Int32)))).bind (fun u11 => (if u11 = 0 then F s.1 s.2 else if chk s.1 48 = true then if chk s.1 10 = true then κ ((s.1 + (1 : Int32)), (upd s.2 (Int32.toNatClampNeg s.1) (items (Int32.toNatClampNeg s.1)))) else none else none)) else none))
theorem rd_loop {X : Type} {N z : Nat} {items f r : Nat → Int32} (F : Int32 → (Nat → Int32) → Option X) (hN : 20 < N) (hz : z ≤ 48) (hi : ∀ i, i < 48 → items i = f i) : ∃ r' : Nat → Int32, lp (rdbody items (nI z) F) N (0, r) = F (nI (pfx (rdP z f) 10)) r' ∧ (∀ g, g < pfx (rdP z f) 10 → r' g = f g) ∧ ∀ g, g < 10 → pfx (rdP z f) 10 ≤ g → r' g = r g := by
  have hm := pfx_le (P := rdP z f) 10
  have st : stTM (Int32.toNatClampNeg 0) = 9 := by decide
  obtain ⟨w, hw, e⟩ := lp_for (b := rdbody items (nI z) F) (pfx (rdP z f) 10) (fun k s => ∃ r' : Nat → Int32, s = (nI k, r') ∧ (∀ g, g < k → r' g = f g) ∧ ∀ g, g < 10 → k ≤ g → r' g = r g) (fun w => ∃ r' : Nat → Int32, w = F (nI (pfx (rdP z f) 10)) r' ∧ (∀ g, g < pfx (rdP z f) 10 → r' g = f g) ∧ ∀ g, g < 10 → pfx (rdP z f) 10 ≤ g → r' g = r g)
    (fun k s hk hp => by
      obtain ⟨r', rfl, p1, p2⟩ := hp
      left
      have hP := rdP_iff.mp (pfx_in hk)
      refine ⟨_, ⟨upd r' k (f k), rfl, fun g hg => ?_, fun g hg hkg => ?_⟩, fun κ => ?_⟩
      · unfold upd
        by_cases c : g = k
        · rw [if_pos c, c]
        · rw [if_neg c]; exact p1 g (by omega)
      · unfold upd
        rw [if_neg (by omega)]; exact p2 g hg (by omega)
      · unfold rdbody
        simp only
        rw [if_neg (by rw [li10, nI_leI (by omega) (by omega)]; omega), if_neg (by rw [nI_leI (by omega) (by omega)]; omega), if_pos (chk_nI (by omega) (by omega)), nI_clamp (by omega), hi k (by omega), st, within_eq, Option.bind_some, if_pos hP.2, if_neg i10, if_pos (chk_nI (by omega) (by omega)), if_pos (chk_nI (by omega) (by omega)), nI_1])
    (fun s hp => by
      obtain ⟨r', rfl, p1, p2⟩ := hp
      refine ⟨_, ⟨r', rfl, p1, p2⟩, fun κ => ?_⟩
      unfold rdbody
      simp only
      rcases pfx_end (P := rdP z f) 10 with h | ⟨h1, h2⟩
      · rw [if_pos (by rw [h]; decide)]
      · rw [if_neg (by rw [li10, nI_leI (by omega) (by omega)]; omega)]
        by_cases c : z ≤ pfx (rdP z f) 10
        · rw [if_pos (by rw [nI_leI (by omega) (by omega)]; exact c)]
        · have nq : ¬ (0 ≤ f (pfx (rdP z f) 10) ∧ f (pfx (rdP z f) 10) ≤ 9) := fun q => by rw [rdP_iff.mpr ⟨by omega, q⟩] at h2; cases h2
          rw [if_neg (by rw [nI_leI (by omega) (by omega)]; exact c), if_pos (chk_nI (by omega) (by omega)), nI_clamp (by omega), hi _ (by omega), st, within_eq, Option.bind_some, if_neg nq, if_pos i00])
    (k := 0) (s := (0, r)) (N := N) (by omega) ⟨r, rfl, fun g hg => by omega, fun g _ _ => rfl⟩ (by omega)
  obtain ⟨r', a1, a2, a3⟩ := hw
  exact ⟨r', by rw [e, a1], a2, a3⟩
def reA (lo : Nat → Bool) (si : Nat → Nat) (it : Nat → Nat → Int32) (tr : Nat → Nat → Nat) (fd p : Int32) : Int32 × (Nat → Nat → Nat) × Int32 := if 0 ≤ p ∧ p ≤ 3 then (if lo (Int32.toNatClampNeg p) then ((-10 : Int32) - 1, tr, 1) else (nI (pfx (rdP (si (Int32.toNatClampNeg p)) (it (Int32.toNatClampNeg p))) 10), rdT tr (it (Int32.toNatClampNeg p)) (pfx (rdP (si (Int32.toNatClampNeg p)) (it (Int32.toNatClampNeg p))) 10), fd)) else (-2, tr, fd)
section RW
variable {N : Nat} {n : Nat → Nat} {β tr : Nat → Nat → Nat} {st : Nat → Nat} {t0_bytes t1_bytes t2_bytes tr0 tr1 tr2 settings h_inRow h_inFrontOf h_liftedFor h_takers g_goesAt g_liftedForThese : Nat → Int32} {t0_size t0_faultAt t0_known t0_bits t1_size t1_faultAt t1_known t2_size t2_faultAt t2_known h_takerCount h_laid h_judgedGuest h_liftedInAll g_many t1_bits t2_bits : Int32} {typed texts rowOf looks minutes : Nat → Int32} {deep room look lift : Int32} {lo : Nat → Bool} {fo si : Nat → Nat} {it : Nat → Nat → Int32} {fd : Int32} {s0_items s1_items s2_items s3_items : Nat → Int32} {s0_lost s0_form s0_size s1_lost s1_form s1_size s2_lost s2_form s2_size s3_lost s3_form s3_size : Int32} {isThere forms sizes items moved : Nat → Int32}
theorem read6 (hN : 20 < N) (hC : ClsT n β tr st t0_bytes t0_size t0_faultAt t0_known t0_bits t1_bytes t1_size t1_faultAt t1_known t2_bytes t2_size t2_faultAt t2_known tr0 tr1 tr2 settings h_inRow h_inFrontOf h_liftedFor h_takers h_takerCount h_laid h_judgedGuest h_liftedInAll g_many g_goesAt g_liftedForThese) (hS : ShC lo fo si it s0_items s0_lost s0_form s0_size s1_items s1_lost s1_form s1_size s2_items s2_lost s2_form s2_size s3_items s3_lost s3_form s3_size) (p : Int32) : ∃ R, fX6_read N t0_bytes t0_size t0_faultAt t0_known t0_bits t1_bytes t1_size t1_faultAt t1_known t1_bits t2_bytes t2_size t2_faultAt t2_known t2_bits tr0 settings h_inRow h_inFrontOf h_liftedFor h_takers h_takerCount h_laid h_judgedGuest h_liftedInAll g_many g_goesAt g_liftedForThese s0_items s0_lost s0_size s1_items s1_lost s1_size s2_items s2_lost s2_size s3_items s3_lost s3_size fd p = some R ∧ R.1 = (reA lo si it tr fd p).1 ∧ ClsT n β (reA lo si it tr fd p).2.1 st t0_bytes t0_size R.2.1 R.2.2.1 R.2.2.2.1 t1_bytes t1_size R.2.2.2.2.1 R.2.2.2.2.2.1 t2_bytes t2_size R.2.2.2.2.2.2.2.1 R.2.2.2.2.2.2.2.2.1 R.2.2.2.2.2.2.2.2.2.2.1 tr1 tr2 settings R.2.2.2.2.2.2.2.2.2.2.2.1 R.2.2.2.2.2.2.2.2.2.2.2.2.1 R.2.2.2.2.2.2.2.2.2.2.2.2.2.1 R.2.2.2.2.2.2.2.2.2.2.2.2.2.2.1 R.2.2.2.2.2.2.2.2.2.2.2.2.2.2.2.1 R.2.2.2.2.2.2.2.2.2.2.2.2.2.2.2.2.1 R.2.2.2.2.2.2.2.2.2.2.2.2.2.2.2.2.2.1 R.2.2.2.2.2.2.2.2.2.2.2.2.2.2.2.2.2.2.1 R.2.2.2.2.2.2.2.2.2.2.2.2.2.2.2.2.2.2.2.1 R.2.2.2.2.2.2.2.2.2.2.2.2.2.2.2.2.2.2.2.2.1 R.2.2.2.2.2.2.2.2.2.2.2.2.2.2.2.2.2.2.2.2.2.1 ∧ R.2.2.2.2.2.2.2.2.2.2.2.2.2.2.2.2.2.2.2.2.2.2 = (reA lo si it tr fd p).2.2 := by
  have hC0 := hC
  obtain ⟨h0, h1, h2, hTr, hSt, -⟩ := hC
  obtain ⟨hB, s0, s1, s2, s3⟩ := hS
  unfold fX6_read
  rw [isSheet6_eq, Option.bind_some]
  by_cases c1 : 0 ≤ p ∧ p ≤ 3
  · rw [if_pos c1, if_neg i10]
    obtain ⟨s, hs, rfl⟩ := ncase (m := 3) (by decide) c1
    have hz := (hB s (by omega)).2
    cases q : lo s with
    | true =>
      rw [show reA lo si it tr fd (nI s) = ((-10 : Int32) - 1, tr, 1) from by unfold reA; rw [if_pos c1, nI_clamp (by omega), q, if_pos rfl]]
      rcases (show s = 0 ∨ s = 1 ∨ s = 2 ∨ s = 3 by omega) with e | e | e | e <;> subst e <;> simp only [dI00, dI01, dI02, dI03, dI10, dI11, dI12, dI13, dI20, dI21, dI22, dI23, dI30, dI31, dI32, dI33, if_true, if_false]
      · rw [if_neg (show ¬ s0_lost = 0 by rw [s0.1, q]; decide)]
        unfold fX6_finding
        rw [Option.bind_some]
        exact ⟨_, rfl, rfl, hC0, rfl⟩
      · rw [if_neg (show ¬ s1_lost = 0 by rw [s1.1, q]; decide)]
        unfold fX6_finding
        rw [Option.bind_some]
        exact ⟨_, rfl, rfl, hC0, rfl⟩
      · rw [if_neg (show ¬ s2_lost = 0 by rw [s2.1, q]; decide)]
        unfold fX6_finding
        rw [Option.bind_some]
        exact ⟨_, rfl, rfl, hC0, rfl⟩
      · rw [if_neg (show ¬ s3_lost = 0 by rw [s3.1, q]; decide)]
        unfold fX6_finding
        rw [Option.bind_some]
        exact ⟨_, rfl, rfl, hC0, rfl⟩
    | false =>
      rw [show reA lo si it tr fd (nI s) = (nI (pfx (rdP (si s) (it s)) 10), rdT tr (it s) (pfx (rdP (si s) (it s)) 10), fd) from by unfold reA; rw [if_pos c1, nI_clamp (by omega), q, if_neg Bool.false_ne_true]]
      rcases (show s = 0 ∨ s = 1 ∨ s = 2 ∨ s = 3 by omega) with e | e | e | e <;> subst e <;> simp only [dI00, dI01, dI02, dI03, dI10, dI11, dI12, dI13, dI20, dI21, dI22, dI23, dI30, dI31, dI32, dI33, if_true, if_false]
      · rw [if_pos (show s0_lost = 0 by rw [s0.1, q]; rfl)]
        have eb : bX6_read_32 N t0_bytes t0_size t1_bytes t1_size t2_bytes t2_size settings s0_items s0_lost s0_size s1_items s1_lost s1_size s2_items s2_lost s2_size s3_items s3_lost s3_size (nI 0) t0_faultAt t0_known t0_bits t1_faultAt t1_known t1_bits t2_faultAt t2_known t2_bits h_inRow h_inFrontOf h_liftedFor h_takers h_takerCount h_laid h_judgedGuest h_liftedInAll g_many g_goesAt g_liftedForThese fd = rdbody s0_items s0_size (fun a b => bX6_read_84 N t0_bytes t0_size t1_bytes t1_size t2_bytes t2_size settings s0_items s0_lost s0_size s1_items s1_lost s1_size s2_items s2_lost s2_size s3_items s3_lost s3_size (nI 0) a t0_faultAt t0_known t0_bits t1_faultAt t1_known t1_bits t2_faultAt t2_known t2_bits b h_inRow h_inFrontOf h_liftedFor h_takers h_takerCount h_laid h_judgedGuest h_liftedInAll g_many g_goesAt g_liftedForThese fd) := rfl
        obtain ⟨r', e1, e2, e3⟩ := rd_loop (N := N) (items := s0_items) (f := it 0) (r := tr0) (z := si 0) (fun a b => bX6_read_84 N t0_bytes t0_size t1_bytes t1_size t2_bytes t2_size settings s0_items s0_lost s0_size s1_items s1_lost s1_size s2_items s2_lost s2_size s3_items s3_lost s3_size (nI 0) a t0_faultAt t0_known t0_bits t1_faultAt t1_known t1_bits t2_faultAt t2_known t2_bits b h_inRow h_inFrontOf h_liftedFor h_takers h_takerCount h_laid h_judgedGuest h_liftedInAll g_many g_goesAt g_liftedForThese fd) hN hz s0.2.2.2
        obtain ⟨U, u1, u2⟩ := settleT (N := N) (n := n) (β := β) (tr := rdT tr (it 0) (pfx (rdP (si 0) (it 0)) 10)) (st := st) (tr0 := r') (t0_faultAt := t0_faultAt) (t0_known := t0_known) (t0_bits := t0_bits) (t1_faultAt := t1_faultAt) (t1_known := t1_known) (t1_bits := t1_bits) (t2_faultAt := t2_faultAt) (t2_known := t2_known) (t2_bits := t2_bits) (h_inRow := h_inRow) (h_inFrontOf := h_inFrontOf) (h_liftedFor := h_liftedFor) (h_takers := h_takers) (h_takerCount := h_takerCount) (h_laid := h_laid) (h_judgedGuest := h_judgedGuest) (h_liftedInAll := h_liftedInAll) (g_many := g_many) (g_goesAt := g_goesAt) (g_liftedForThese := g_liftedForThese) hN h0 h1 h2 (RTr_rd hTr (fun i hi => pfx_in hi) e2 e3) hSt
        have ez : s0_size = nI (si 0) := s0.2.2.1
        rw [← ez] at e1
        rw [eb, e1]
        unfold bX6_read_84
        rw [u1, Option.bind_some]
        exact ⟨_, rfl, rfl, u2, rfl⟩
      · rw [if_pos (show s1_lost = 0 by rw [s1.1, q]; rfl)]
        have eb : bX6_read_32r1 N t0_bytes t0_size t1_bytes t1_size t2_bytes t2_size settings s0_items s0_lost s0_size s1_items s1_lost s1_size s2_items s2_lost s2_size s3_items s3_lost s3_size (nI 1) t0_faultAt t0_known t0_bits t1_faultAt t1_known t1_bits t2_faultAt t2_known t2_bits h_inRow h_inFrontOf h_liftedFor h_takers h_takerCount h_laid h_judgedGuest h_liftedInAll g_many g_goesAt g_liftedForThese fd = rdbody s1_items s1_size (fun a b => bX6_read_84 N t0_bytes t0_size t1_bytes t1_size t2_bytes t2_size settings s0_items s0_lost s0_size s1_items s1_lost s1_size s2_items s2_lost s2_size s3_items s3_lost s3_size (nI 1) a t0_faultAt t0_known t0_bits t1_faultAt t1_known t1_bits t2_faultAt t2_known t2_bits b h_inRow h_inFrontOf h_liftedFor h_takers h_takerCount h_laid h_judgedGuest h_liftedInAll g_many g_goesAt g_liftedForThese fd) := rfl
        obtain ⟨r', e1, e2, e3⟩ := rd_loop (N := N) (items := s1_items) (f := it 1) (r := tr0) (z := si 1) (fun a b => bX6_read_84 N t0_bytes t0_size t1_bytes t1_size t2_bytes t2_size settings s0_items s0_lost s0_size s1_items s1_lost s1_size s2_items s2_lost s2_size s3_items s3_lost s3_size (nI 1) a t0_faultAt t0_known t0_bits t1_faultAt t1_known t1_bits t2_faultAt t2_known t2_bits b h_inRow h_inFrontOf h_liftedFor h_takers h_takerCount h_laid h_judgedGuest h_liftedInAll g_many g_goesAt g_liftedForThese fd) hN hz s1.2.2.2
        obtain ⟨U, u1, u2⟩ := settleT (N := N) (n := n) (β := β) (tr := rdT tr (it 1) (pfx (rdP (si 1) (it 1)) 10)) (st := st) (tr0 := r') (t0_faultAt := t0_faultAt) (t0_known := t0_known) (t0_bits := t0_bits) (t1_faultAt := t1_faultAt) (t1_known := t1_known) (t1_bits := t1_bits) (t2_faultAt := t2_faultAt) (t2_known := t2_known) (t2_bits := t2_bits) (h_inRow := h_inRow) (h_inFrontOf := h_inFrontOf) (h_liftedFor := h_liftedFor) (h_takers := h_takers) (h_takerCount := h_takerCount) (h_laid := h_laid) (h_judgedGuest := h_judgedGuest) (h_liftedInAll := h_liftedInAll) (g_many := g_many) (g_goesAt := g_goesAt) (g_liftedForThese := g_liftedForThese) hN h0 h1 h2 (RTr_rd hTr (fun i hi => pfx_in hi) e2 e3) hSt
        have ez : s1_size = nI (si 1) := s1.2.2.1
        rw [← ez] at e1
        rw [eb, e1]
        unfold bX6_read_84
        rw [u1, Option.bind_some]
        exact ⟨_, rfl, rfl, u2, rfl⟩
      · rw [if_pos (show s2_lost = 0 by rw [s2.1, q]; rfl)]
        have eb : bX6_read_32r2 N t0_bytes t0_size t1_bytes t1_size t2_bytes t2_size settings s0_items s0_lost s0_size s1_items s1_lost s1_size s2_items s2_lost s2_size s3_items s3_lost s3_size (nI 2) t0_faultAt t0_known t0_bits t1_faultAt t1_known t1_bits t2_faultAt t2_known t2_bits h_inRow h_inFrontOf h_liftedFor h_takers h_takerCount h_laid h_judgedGuest h_liftedInAll g_many g_goesAt g_liftedForThese fd = rdbody s2_items s2_size (fun a b => bX6_read_84 N t0_bytes t0_size t1_bytes t1_size t2_bytes t2_size settings s0_items s0_lost s0_size s1_items s1_lost s1_size s2_items s2_lost s2_size s3_items s3_lost s3_size (nI 2) a t0_faultAt t0_known t0_bits t1_faultAt t1_known t1_bits t2_faultAt t2_known t2_bits b h_inRow h_inFrontOf h_liftedFor h_takers h_takerCount h_laid h_judgedGuest h_liftedInAll g_many g_goesAt g_liftedForThese fd) := rfl
        obtain ⟨r', e1, e2, e3⟩ := rd_loop (N := N) (items := s2_items) (f := it 2) (r := tr0) (z := si 2) (fun a b => bX6_read_84 N t0_bytes t0_size t1_bytes t1_size t2_bytes t2_size settings s0_items s0_lost s0_size s1_items s1_lost s1_size s2_items s2_lost s2_size s3_items s3_lost s3_size (nI 2) a t0_faultAt t0_known t0_bits t1_faultAt t1_known t1_bits t2_faultAt t2_known t2_bits b h_inRow h_inFrontOf h_liftedFor h_takers h_takerCount h_laid h_judgedGuest h_liftedInAll g_many g_goesAt g_liftedForThese fd) hN hz s2.2.2.2
        obtain ⟨U, u1, u2⟩ := settleT (N := N) (n := n) (β := β) (tr := rdT tr (it 2) (pfx (rdP (si 2) (it 2)) 10)) (st := st) (tr0 := r') (t0_faultAt := t0_faultAt) (t0_known := t0_known) (t0_bits := t0_bits) (t1_faultAt := t1_faultAt) (t1_known := t1_known) (t1_bits := t1_bits) (t2_faultAt := t2_faultAt) (t2_known := t2_known) (t2_bits := t2_bits) (h_inRow := h_inRow) (h_inFrontOf := h_inFrontOf) (h_liftedFor := h_liftedFor) (h_takers := h_takers) (h_takerCount := h_takerCount) (h_laid := h_laid) (h_judgedGuest := h_judgedGuest) (h_liftedInAll := h_liftedInAll) (g_many := g_many) (g_goesAt := g_goesAt) (g_liftedForThese := g_liftedForThese) hN h0 h1 h2 (RTr_rd hTr (fun i hi => pfx_in hi) e2 e3) hSt
        have ez : s2_size = nI (si 2) := s2.2.2.1
        rw [← ez] at e1
        rw [eb, e1]
        unfold bX6_read_84
        rw [u1, Option.bind_some]
        exact ⟨_, rfl, rfl, u2, rfl⟩
      · rw [if_pos (show s3_lost = 0 by rw [s3.1, q]; rfl)]
        have eb : bX6_read_32r3 N t0_bytes t0_size t1_bytes t1_size t2_bytes t2_size settings s0_items s0_lost s0_size s1_items s1_lost s1_size s2_items s2_lost s2_size s3_items s3_lost s3_size (nI 3) t0_faultAt t0_known t0_bits t1_faultAt t1_known t1_bits t2_faultAt t2_known t2_bits h_inRow h_inFrontOf h_liftedFor h_takers h_takerCount h_laid h_judgedGuest h_liftedInAll g_many g_goesAt g_liftedForThese fd = rdbody s3_items s3_size (fun a b => bX6_read_84 N t0_bytes t0_size t1_bytes t1_size t2_bytes t2_size settings s0_items s0_lost s0_size s1_items s1_lost s1_size s2_items s2_lost s2_size s3_items s3_lost s3_size (nI 3) a t0_faultAt t0_known t0_bits t1_faultAt t1_known t1_bits t2_faultAt t2_known t2_bits b h_inRow h_inFrontOf h_liftedFor h_takers h_takerCount h_laid h_judgedGuest h_liftedInAll g_many g_goesAt g_liftedForThese fd) := rfl
        obtain ⟨r', e1, e2, e3⟩ := rd_loop (N := N) (items := s3_items) (f := it 3) (r := tr0) (z := si 3) (fun a b => bX6_read_84 N t0_bytes t0_size t1_bytes t1_size t2_bytes t2_size settings s0_items s0_lost s0_size s1_items s1_lost s1_size s2_items s2_lost s2_size s3_items s3_lost s3_size (nI 3) a t0_faultAt t0_known t0_bits t1_faultAt t1_known t1_bits t2_faultAt t2_known t2_bits b h_inRow h_inFrontOf h_liftedFor h_takers h_takerCount h_laid h_judgedGuest h_liftedInAll g_many g_goesAt g_liftedForThese fd) hN hz s3.2.2.2
        obtain ⟨U, u1, u2⟩ := settleT (N := N) (n := n) (β := β) (tr := rdT tr (it 3) (pfx (rdP (si 3) (it 3)) 10)) (st := st) (tr0 := r') (t0_faultAt := t0_faultAt) (t0_known := t0_known) (t0_bits := t0_bits) (t1_faultAt := t1_faultAt) (t1_known := t1_known) (t1_bits := t1_bits) (t2_faultAt := t2_faultAt) (t2_known := t2_known) (t2_bits := t2_bits) (h_inRow := h_inRow) (h_inFrontOf := h_inFrontOf) (h_liftedFor := h_liftedFor) (h_takers := h_takers) (h_takerCount := h_takerCount) (h_laid := h_laid) (h_judgedGuest := h_judgedGuest) (h_liftedInAll := h_liftedInAll) (g_many := g_many) (g_goesAt := g_goesAt) (g_liftedForThese := g_liftedForThese) hN h0 h1 h2 (RTr_rd hTr (fun i hi => pfx_in hi) e2 e3) hSt
        have ez : s3_size = nI (si 3) := s3.2.2.1
        rw [← ez] at e1
        rw [eb, e1]
        unfold bX6_read_84
        rw [u1, Option.bind_some]
        exact ⟨_, rfl, rfl, u2, rfl⟩
  · rw [if_neg c1, if_pos i00, show reA lo si it tr fd p = (-2, tr, fd) from if_neg c1]
    exact ⟨_, rfl, rfl, hC0, rfl⟩
theorem read7 (hN : 20 < N) (hM : ModT n β tr st typed texts rowOf looks minutes deep room look lift) (hS : ShM lo fo si it isThere forms sizes items) (p : Int32) : ∃ S, fX7_read N rowOf isThere sizes items fd p = some S ∧ S.1 = (reA lo si it tr fd p).1 ∧ ModT n β (reA lo si it tr fd p).2.1 st typed texts S.2.1 looks minutes deep room look lift ∧ S.2.2 = (reA lo si it tr fd p).2.2 := by
  have hM0 := hM
  obtain ⟨hT, hR, hM2⟩ := hM
  obtain ⟨hB, hS⟩ := hS
  unfold fX7_read
  rw [isSheet7_eq, Option.bind_some]
  by_cases c1 : 0 ≤ p ∧ p ≤ 3
  · rw [if_pos c1, if_neg i10]
    obtain ⟨s, hs, rfl⟩ := ncase (m := 3) (by decide) c1
    obtain ⟨m1, m2, m3, m4⟩ := hS s (by omega)
    have hz := (hB s (by omega)).2
    rw [if_pos (chk_nI (by omega) (by omega)), nI_clamp (show s < 2 ^ 31 by omega), m1]
    cases q : lo s with
    | true =>
      rw [show reA lo si it tr fd (nI s) = ((-10 : Int32) - 1, tr, 1) from by unfold reA; rw [if_pos c1, nI_clamp (by omega), q, if_pos rfl], if_pos (show bI (!true) = 0 from rfl)]
      unfold fX7_meets
      rw [Option.bind_some]
      exact ⟨_, rfl, rfl, hM0, rfl⟩
    | false =>
      rw [show reA lo si it tr fd (nI s) = (nI (pfx (rdP (si s) (it s)) 10), rdT tr (it s) (pfx (rdP (si s) (it s)) 10), fd) from by unfold reA; rw [if_pos c1, nI_clamp (by omega), q, if_neg Bool.false_ne_true], if_neg (show ¬ bI (!false) = 0 by decide)]
      have hm := pfx_le (P := rdP (si s) (it s)) 10
      obtain ⟨w, hw, e⟩ := lp_for (b := bX7_read_27 N isThere sizes items (nI s) fd) (pfx (rdP (si s) (it s)) 10) (fun k st => ∃ r' : Nat → Int32, st = (nI k, r') ∧ (∀ g, g < k → r' g = it s g) ∧ ∀ g, g < 10 → k ≤ g → r' g = rowOf g) (fun w => ∃ r' : Nat → Int32, w = some (nI (pfx (rdP (si s) (it s)) 10), r', fd) ∧ (∀ g, g < pfx (rdP (si s) (it s)) 10 → r' g = it s g) ∧ ∀ g, g < 10 → pfx (rdP (si s) (it s)) 10 ≤ g → r' g = rowOf g)
        (fun k st hk hp => by
          obtain ⟨r', rfl, p1, p2⟩ := hp
          left
          have hP := rdP_iff.mp (pfx_in hk)
          refine ⟨_, ⟨upd r' k (it s k), rfl, fun g hg => ?_, fun g hg hkg => ?_⟩, fun κ => ?_⟩
          · unfold upd
            by_cases c : g = k
            · rw [if_pos c, c]
            · rw [if_neg c]; exact p1 g (by omega)
          · unfold upd
            rw [if_neg (by omega)]; exact p2 g hg (by omega)
          · unfold bX7_read_27
            simp only
            rw [if_pos (chk_nI (by omega) (by omega)), nI_clamp (show s < 2 ^ 31 by omega), m3, if_neg (by rw [nI_leI (by omega) (by omega)]; omega), if_neg (by rw [li10, nI_leI (by omega) (by omega)]; omega), li48, pk_mul, nI_add, if_pos (chk_nI (by omega) (by omega)), nI_clamp (by omega), m4 k (by omega), isGuest7_eq, Option.bind_some, if_pos hP.2, if_neg i10, if_pos (chk_nI (by omega) (by omega)), if_pos (chk_nI (by omega) (by omega)), nI_clamp (by omega), nI_1])
        (fun st hp => by
          obtain ⟨r', rfl, p1, p2⟩ := hp
          refine ⟨_, ⟨r', rfl, p1, p2⟩, fun κ => ?_⟩
          unfold bX7_read_27
          simp only
          rw [if_pos (chk_nI (by omega) (by omega)), nI_clamp (show s < 2 ^ 31 by omega), m3]
          by_cases c : si s ≤ pfx (rdP (si s) (it s)) 10
          · rw [if_pos (by rw [nI_leI (by omega) (by omega)]; exact c)]
          · rw [if_neg (by rw [nI_leI (by omega) (by omega)]; exact c)]
            rcases pfx_end (P := rdP (si s) (it s)) 10 with h | ⟨h1, h2⟩
            · rw [if_pos (by rw [h]; decide)]
            · have nq : ¬ (0 ≤ it s (pfx (rdP (si s) (it s)) 10) ∧ it s (pfx (rdP (si s) (it s)) 10) ≤ 9) := fun q => by rw [rdP_iff.mpr ⟨by omega, q⟩] at h2; cases h2
              rw [if_neg (by rw [li10, nI_leI (by omega) (by omega)]; omega), li48, pk_mul, nI_add, if_pos (chk_nI (by omega) (by omega)), nI_clamp (by omega), m4 _ (by omega), isGuest7_eq, Option.bind_some, if_neg nq, if_pos i00])
        (k := 0) (s := (0, rowOf)) (N := N) (by omega) ⟨rowOf, rfl, fun g hg => by omega, fun g _ _ => rfl⟩ (by omega)
      obtain ⟨r', a1, a2, a3⟩ := hw
      rw [e, a1]
      exact ⟨_, rfl, rfl, ⟨hT, RTr_rd hR (fun i hi => pfx_in hi) a2 a3, hM2⟩, rfl⟩
  · rw [if_neg c1, if_pos i00, show reA lo si it tr fd p = (-2, tr, fd) from if_neg c1]
    exact ⟨_, rfl, rfl, hM0, rfl⟩
def mnA (a b : Nat) : Nat := if b < a then b else a
def wrA (lo : Nat → Bool) (si : Nat → Nat) (it : Nat → Nat → Int32) (t : Nat) (tv : Nat → Nat) (fd p : Int32) : Int32 × (Nat → Nat → Int32) × Int32 := if 0 ≤ p ∧ p ≤ 3 then (if lo (Int32.toNatClampNeg p) then ((-10 : Int32) - 1, it, 1) else (nI (mnA (si (Int32.toNatClampNeg p)) t), ix it (Int32.toNatClampNeg p) (fun i => if i < mnA (si (Int32.toNatClampNeg p)) t then nI (tv i) else it (Int32.toNatClampNeg p) i), fd)) else (-2, it, fd)
theorem write6 (hN : 20 < N) (hn1 : n 1 ≤ 10) (hS : ShC lo fo si it s0_items s0_lost s0_form s0_size s1_items s1_lost s1_form s1_size s2_items s2_lost s2_form s2_size s3_items s3_lost s3_form s3_size) (hlf : ∀ g, g < 10 → h_liftedFor g = oI (lfs n β (tr 0) (st 0) g)) (htk : CA (tcs n β (tr 0) (st 0)) (tks n β (tr 0) (st 0)) h_takers) (p : Int32) : ∃ R, fX6_write N h_liftedFor h_takers (nI (tcs n β (tr 0) (st 0))) s0_items s0_lost s0_size s1_items s1_lost s1_size s2_items s2_lost s2_size s3_items s3_lost s3_size fd p = some R ∧ R.1 = (wrA lo si it (tcs n β (tr 0) (st 0)) (tvs n β (tr 0) (st 0)) fd p).1 ∧ ShC lo fo si (wrA lo si it (tcs n β (tr 0) (st 0)) (tvs n β (tr 0) (st 0)) fd p).2.1 R.2.1 s0_lost s0_form s0_size R.2.2.1 s1_lost s1_form s1_size R.2.2.2.1 s2_lost s2_form s2_size R.2.2.2.2.1 s3_lost s3_form s3_size ∧ R.2.2.2.2.2 = (wrA lo si it (tcs n β (tr 0) (st 0)) (tvs n β (tr 0) (st 0)) fd p).2.2 := by
  have hC0 := hS
  obtain ⟨hB, s0, s1, s2, s3⟩ := hS
  have hd := dg_g (β := β) hn1
  have hdt : DG (tcs n β (tr 0) (st 0)) (tks n β (tr 0) (st 0)) := dg_tk hd
  have ht := hdt.1
  have hlt : ∀ i, i < tcs n β (tr 0) (st 0) → h_liftedFor (tks n β (tr 0) (st 0) i) = nI (tvs n β (tr 0) (st 0) i) := fun i hi => by
    rw [hlf _ (hdt.2.1 i hi)]
    show oI (lfg _ _ _ _ _) = _
    rw [(tk_lf (F := FRs (tr 0) (st 0) n β) hd hi).1]; rfl
  unfold fX6_write
  rw [isSheet6_eq, Option.bind_some]
  by_cases c1 : 0 ≤ p ∧ p ≤ 3
  · rw [if_pos c1, if_neg i10]
    obtain ⟨s, hs, rfl⟩ := ncase (m := 3) (by decide) c1
    have hz := (hB s (by omega)).2
    have hmn : mnA (si s) (tcs n β (tr 0) (st 0)) ≤ si s ∧ mnA (si s) (tcs n β (tr 0) (st 0)) ≤ tcs n β (tr 0) (st 0) := by unfold mnA; split <;> omega
    have hmi : ∀ z : Int32, z = nI (si s) → (if nI (tcs n β (tr 0) (st 0)) < z then nI (tcs n β (tr 0) (st 0)) else z) = nI (mnA (si s) (tcs n β (tr 0) (st 0))) := by
      intro z hz2
      rw [hz2]
      unfold mnA
      by_cases c : tcs n β (tr 0) (st 0) < si s
      · rw [if_pos (by rw [nI_ltI (by omega) (by omega)]; exact c), if_pos c]
      · rw [if_neg (by rw [nI_ltI (by omega) (by omega)]; exact c), if_neg c]
    cases q : lo s with
    | true =>
      rw [show wrA lo si it (tcs n β (tr 0) (st 0)) (tvs n β (tr 0) (st 0)) fd (nI s) = ((-10 : Int32) - 1, it, 1) from by unfold wrA; rw [if_pos c1, nI_clamp (by omega), q, if_pos rfl]]
      rcases (show s = 0 ∨ s = 1 ∨ s = 2 ∨ s = 3 by omega) with e | e | e | e <;> subst e <;> simp only [dI00, dI01, dI02, dI03, dI10, dI11, dI12, dI13, dI20, dI21, dI22, dI23, dI30, dI31, dI32, dI33, if_true, if_false]
      · rw [if_neg (show ¬ s0_lost = 0 by rw [s0.1, q]; decide)]
        unfold fX6_finding
        rw [Option.bind_some]
        exact ⟨_, rfl, rfl, hC0, rfl⟩
      · rw [if_neg (show ¬ s1_lost = 0 by rw [s1.1, q]; decide)]
        unfold fX6_finding
        rw [Option.bind_some]
        exact ⟨_, rfl, rfl, hC0, rfl⟩
      · rw [if_neg (show ¬ s2_lost = 0 by rw [s2.1, q]; decide)]
        unfold fX6_finding
        rw [Option.bind_some]
        exact ⟨_, rfl, rfl, hC0, rfl⟩
      · rw [if_neg (show ¬ s3_lost = 0 by rw [s3.1, q]; decide)]
        unfold fX6_finding
        rw [Option.bind_some]
        exact ⟨_, rfl, rfl, hC0, rfl⟩
    | false =>
      rw [show wrA lo si it (tcs n β (tr 0) (st 0)) (tvs n β (tr 0) (st 0)) fd (nI s) = (nI (mnA (si s) (tcs n β (tr 0) (st 0))), ix it s (fun i => if i < mnA (si s) (tcs n β (tr 0) (st 0)) then nI (tvs n β (tr 0) (st 0) i) else it s i), fd) from by unfold wrA; rw [if_pos c1, nI_clamp (by omega), q, if_neg Bool.false_ne_true]]
      generalize hgm : mnA (si s) (tcs n β (tr 0) (st 0)) = m at hmn hmi
      rcases (show s = 0 ∨ s = 1 ∨ s = 2 ∨ s = 3 by omega) with e | e | e | e <;> subst e <;> simp only [dI00, dI01, dI02, dI03, dI10, dI11, dI12, dI13, dI20, dI21, dI22, dI23, dI30, dI31, dI32, dI33, if_true, if_false]
      · rw [if_pos (show s0_lost = 0 by rw [s0.1, q]; rfl), hmi _ s0.2.2.1]
        obtain ⟨w, hw, e⟩ := lp_for (b := bX6_write_48 N h_liftedFor h_takers (nI (tcs n β (tr 0) (st 0))) s0_lost s0_size s1_lost s1_size s2_lost s2_size s3_lost s3_size (nI 0) (nI m) fd) m (fun j z => ∃ i' : Nat → Int32, z = (nI j, i', s1_items, s2_items, s3_items) ∧ ∀ i, i < 48 → i' i = if i < j then nI (tvs n β (tr 0) (st 0) i) else it 0 i) (fun w => ∃ i' : Nat → Int32, w = some (nI m, i', s1_items, s2_items, s3_items, fd) ∧ ∀ i, i < 48 → i' i = if i < m then nI (tvs n β (tr 0) (st 0) i) else it 0 i)
          (fun j z hj hp => by
            obtain ⟨i', rfl, p1⟩ := hp
            left
            have hg := hdt.2.1 j (by omega)
            refine ⟨_, ⟨upd i' j (nI (tvs n β (tr 0) (st 0) j)), rfl, fun i hi => ?_⟩, fun κ => ?_⟩
            · unfold upd
              by_cases c : i = j
              · rw [if_pos c, if_pos (by omega), c]
              · rw [if_neg c, p1 i hi]
                by_cases d : i < j
                · rw [if_pos d, if_pos (by omega)]
                · rw [if_neg d, if_neg (by omega)]
            · unfold bX6_write_48 nm
              simp only
              rw [if_neg (by rw [nI_leI (by omega) (by omega)]; omega), if_pos (chk_nI (by omega) (by omega)), nI_clamp (show j < 2 ^ 31 by omega), htk j (by omega), if_pos (chk_nI hg (by omega)), nI_clamp (show tks n β (tr 0) (st 0) j < 2 ^ 31 by omega), hlt j (by omega), if_pos (chk_nI (show j < 48 by omega) (by omega)), nI_1])
          (fun z hp => by
            obtain ⟨i', rfl, p1⟩ := hp
            refine ⟨_, ⟨i', rfl, p1⟩, fun κ => ?_⟩
            unfold bX6_write_48
            simp only
            rw [if_pos (by rw [nI_leI (by omega) (by omega)]; omega)])
          (k := 0) (s := (0, s0_items, s1_items, s2_items, s3_items)) (N := N) (by omega) ⟨s0_items, rfl, fun i hi => by rw [if_neg (by omega)]; exact s0.2.2.2 i hi⟩ (by omega)
        obtain ⟨i', a1, a2⟩ := hw
        rw [e, a1]
        exact ⟨_, rfl, rfl, ⟨hB, ⟨s0.1, s0.2.1, s0.2.2.1, fun i hi => (a2 i hi).trans (congrFun (ix_s it 0 (fun i => if i < m then nI (tvs n β (tr 0) (st 0) i) else it 0 i)).symm i)⟩, SC1_ix (by omega) s1, SC1_ix (by omega) s2, SC1_ix (by omega) s3⟩, rfl⟩
      · rw [if_pos (show s1_lost = 0 by rw [s1.1, q]; rfl), hmi _ s1.2.2.1]
        obtain ⟨w, hw, e⟩ := lp_for (b := bX6_write_48r1 N h_liftedFor h_takers (nI (tcs n β (tr 0) (st 0))) s0_lost s0_size s1_lost s1_size s2_lost s2_size s3_lost s3_size (nI 1) (nI m) fd) m (fun j z => ∃ i' : Nat → Int32, z = (nI j, s0_items, i', s2_items, s3_items) ∧ ∀ i, i < 48 → i' i = if i < j then nI (tvs n β (tr 0) (st 0) i) else it 1 i) (fun w => ∃ i' : Nat → Int32, w = some (nI m, s0_items, i', s2_items, s3_items, fd) ∧ ∀ i, i < 48 → i' i = if i < m then nI (tvs n β (tr 0) (st 0) i) else it 1 i)
          (fun j z hj hp => by
            obtain ⟨i', rfl, p1⟩ := hp
            left
            have hg := hdt.2.1 j (by omega)
            refine ⟨_, ⟨upd i' j (nI (tvs n β (tr 0) (st 0) j)), rfl, fun i hi => ?_⟩, fun κ => ?_⟩
            · unfold upd
              by_cases c : i = j
              · rw [if_pos c, if_pos (by omega), c]
              · rw [if_neg c, p1 i hi]
                by_cases d : i < j
                · rw [if_pos d, if_pos (by omega)]
                · rw [if_neg d, if_neg (by omega)]
            · unfold bX6_write_48r1 nm
              simp only
              rw [if_neg (by rw [nI_leI (by omega) (by omega)]; omega), if_pos (chk_nI (by omega) (by omega)), nI_clamp (show j < 2 ^ 31 by omega), htk j (by omega), if_pos (chk_nI hg (by omega)), nI_clamp (show tks n β (tr 0) (st 0) j < 2 ^ 31 by omega), hlt j (by omega), if_pos (chk_nI (show j < 48 by omega) (by omega)), nI_1])
          (fun z hp => by
            obtain ⟨i', rfl, p1⟩ := hp
            refine ⟨_, ⟨i', rfl, p1⟩, fun κ => ?_⟩
            unfold bX6_write_48r1
            simp only
            rw [if_pos (by rw [nI_leI (by omega) (by omega)]; omega)])
          (k := 0) (s := (0, s0_items, s1_items, s2_items, s3_items)) (N := N) (by omega) ⟨s1_items, rfl, fun i hi => by rw [if_neg (by omega)]; exact s1.2.2.2 i hi⟩ (by omega)
        obtain ⟨i', a1, a2⟩ := hw
        rw [e, a1]
        exact ⟨_, rfl, rfl, ⟨hB, SC1_ix (by omega) s0, ⟨s1.1, s1.2.1, s1.2.2.1, fun i hi => (a2 i hi).trans (congrFun (ix_s it 1 (fun i => if i < m then nI (tvs n β (tr 0) (st 0) i) else it 1 i)).symm i)⟩, SC1_ix (by omega) s2, SC1_ix (by omega) s3⟩, rfl⟩
      · rw [if_pos (show s2_lost = 0 by rw [s2.1, q]; rfl), hmi _ s2.2.2.1]
        obtain ⟨w, hw, e⟩ := lp_for (b := bX6_write_48r2 N h_liftedFor h_takers (nI (tcs n β (tr 0) (st 0))) s0_lost s0_size s1_lost s1_size s2_lost s2_size s3_lost s3_size (nI 2) (nI m) fd) m (fun j z => ∃ i' : Nat → Int32, z = (nI j, s0_items, s1_items, i', s3_items) ∧ ∀ i, i < 48 → i' i = if i < j then nI (tvs n β (tr 0) (st 0) i) else it 2 i) (fun w => ∃ i' : Nat → Int32, w = some (nI m, s0_items, s1_items, i', s3_items, fd) ∧ ∀ i, i < 48 → i' i = if i < m then nI (tvs n β (tr 0) (st 0) i) else it 2 i)
          (fun j z hj hp => by
            obtain ⟨i', rfl, p1⟩ := hp
            left
            have hg := hdt.2.1 j (by omega)
            refine ⟨_, ⟨upd i' j (nI (tvs n β (tr 0) (st 0) j)), rfl, fun i hi => ?_⟩, fun κ => ?_⟩
            · unfold upd
              by_cases c : i = j
              · rw [if_pos c, if_pos (by omega), c]
              · rw [if_neg c, p1 i hi]
                by_cases d : i < j
                · rw [if_pos d, if_pos (by omega)]
                · rw [if_neg d, if_neg (by omega)]
            · unfold bX6_write_48r2 nm
              simp only
              rw [if_neg (by rw [nI_leI (by omega) (by omega)]; omega), if_pos (chk_nI (by omega) (by omega)), nI_clamp (show j < 2 ^ 31 by omega), htk j (by omega), if_pos (chk_nI hg (by omega)), nI_clamp (show tks n β (tr 0) (st 0) j < 2 ^ 31 by omega), hlt j (by omega), if_pos (chk_nI (show j < 48 by omega) (by omega)), nI_1])
          (fun z hp => by
            obtain ⟨i', rfl, p1⟩ := hp
            refine ⟨_, ⟨i', rfl, p1⟩, fun κ => ?_⟩
            unfold bX6_write_48r2
            simp only
            rw [if_pos (by rw [nI_leI (by omega) (by omega)]; omega)])
          (k := 0) (s := (0, s0_items, s1_items, s2_items, s3_items)) (N := N) (by omega) ⟨s2_items, rfl, fun i hi => by rw [if_neg (by omega)]; exact s2.2.2.2 i hi⟩ (by omega)
        obtain ⟨i', a1, a2⟩ := hw
        rw [e, a1]
        exact ⟨_, rfl, rfl, ⟨hB, SC1_ix (by omega) s0, SC1_ix (by omega) s1, ⟨s2.1, s2.2.1, s2.2.2.1, fun i hi => (a2 i hi).trans (congrFun (ix_s it 2 (fun i => if i < m then nI (tvs n β (tr 0) (st 0) i) else it 2 i)).symm i)⟩, SC1_ix (by omega) s3⟩, rfl⟩
      · rw [if_pos (show s3_lost = 0 by rw [s3.1, q]; rfl), hmi _ s3.2.2.1]
        obtain ⟨w, hw, e⟩ := lp_for (b := bX6_write_48r3 N h_liftedFor h_takers (nI (tcs n β (tr 0) (st 0))) s0_lost s0_size s1_lost s1_size s2_lost s2_size s3_lost s3_size (nI 3) (nI m) fd) m (fun j z => ∃ i' : Nat → Int32, z = (nI j, s0_items, s1_items, s2_items, i') ∧ ∀ i, i < 48 → i' i = if i < j then nI (tvs n β (tr 0) (st 0) i) else it 3 i) (fun w => ∃ i' : Nat → Int32, w = some (nI m, s0_items, s1_items, s2_items, i', fd) ∧ ∀ i, i < 48 → i' i = if i < m then nI (tvs n β (tr 0) (st 0) i) else it 3 i)
          (fun j z hj hp => by
            obtain ⟨i', rfl, p1⟩ := hp
            left
            have hg := hdt.2.1 j (by omega)
            refine ⟨_, ⟨upd i' j (nI (tvs n β (tr 0) (st 0) j)), rfl, fun i hi => ?_⟩, fun κ => ?_⟩
            · unfold upd
              by_cases c : i = j
              · rw [if_pos c, if_pos (by omega), c]
              · rw [if_neg c, p1 i hi]
                by_cases d : i < j
                · rw [if_pos d, if_pos (by omega)]
                · rw [if_neg d, if_neg (by omega)]
            · unfold bX6_write_48r3 nm
              simp only
              rw [if_neg (by rw [nI_leI (by omega) (by omega)]; omega), if_pos (chk_nI (by omega) (by omega)), nI_clamp (show j < 2 ^ 31 by omega), htk j (by omega), if_pos (chk_nI hg (by omega)), nI_clamp (show tks n β (tr 0) (st 0) j < 2 ^ 31 by omega), hlt j (by omega), if_pos (chk_nI (show j < 48 by omega) (by omega)), nI_1])
          (fun z hp => by
            obtain ⟨i', rfl, p1⟩ := hp
            refine ⟨_, ⟨i', rfl, p1⟩, fun κ => ?_⟩
            unfold bX6_write_48r3
            simp only
            rw [if_pos (by rw [nI_leI (by omega) (by omega)]; omega)])
          (k := 0) (s := (0, s0_items, s1_items, s2_items, s3_items)) (N := N) (by omega) ⟨s3_items, rfl, fun i hi => by rw [if_neg (by omega)]; exact s3.2.2.2 i hi⟩ (by omega)
        obtain ⟨i', a1, a2⟩ := hw
        rw [e, a1]
        exact ⟨_, rfl, rfl, ⟨hB, SC1_ix (by omega) s0, SC1_ix (by omega) s1, SC1_ix (by omega) s2, ⟨s3.1, s3.2.1, s3.2.2.1, fun i hi => (a2 i hi).trans (congrFun (ix_s it 3 (fun i => if i < m then nI (tvs n β (tr 0) (st 0) i) else it 3 i)).symm i)⟩⟩, rfl⟩
  · rw [if_neg c1, if_pos i00, show wrA lo si it (tcs n β (tr 0) (st 0)) (tvs n β (tr 0) (st 0)) fd p = (-2, it, fd) from if_neg c1]
    exact ⟨_, rfl, rfl, hC0, rfl⟩
theorem lw_small : ∀ f, f ≤ 2 → ∀ v, v ≤ 10 → lwA (nI f) (nI v) = nI v := by decide
theorem write7 {coming going worn manyIn goer lfo : Nat → Int32} {comes came goes wears laid judgedNow goers : Int32} (hN : 100 < N) (hM : ModT n β tr st typed texts rowOf looks minutes deep room look lift) (hS : ShM lo fo si it isThere forms sizes items) (p : Int32) : ∃ S, fX7_write N typed texts comes coming came goes going wears worn rowOf deep laid judgedNow manyIn goers goer lfo isThere forms sizes items fd p = some S ∧ S.1 = (wrA lo si it (tcs n β (tr 0) (st 0)) (tvs n β (tr 0) (st 0)) fd p).1 ∧ ShM lo fo si (wrA lo si it (tcs n β (tr 0) (st 0)) (tvs n β (tr 0) (st 0)) fd p).2.1 isThere forms sizes S.2.2.2.2.2.2.2.2.2.2.2.2.2.2.1 ∧ S.2.2.2.2.2.2.2.2.2.2.2.2.2.2.2 = (wrA lo si it (tcs n β (tr 0) (st 0)) (tvs n β (tr 0) (st 0)) fd p).2.2 := by
  have hS0 := hS
  obtain ⟨hT, hR, ⟨hs0, -⟩, rfl, -⟩ := hM
  obtain ⟨hB, hS⟩ := hS
  have h1 := (hT 1 (by omega)).2.1
  have hd := dg_g (β := β) h1
  have hdt : DG (tcs n β (tr 0) (st 0)) (tks n β (tr 0) (st 0)) := dg_tk hd
  have ht := hdt.1
  have htv : ∀ i, i < tcs n β (tr 0) (st 0) → tvs n β (tr 0) (st 0) i ≤ 10 := fun i hi => tv_le hi
  unfold fX7_write
  rw [isSheet7_eq, Option.bind_some]
  by_cases c1 : 0 ≤ p ∧ p ≤ 3
  · rw [if_pos c1, if_neg i10]
    obtain ⟨s, hs, rfl⟩ := ncase (m := 3) (by decide) c1
    obtain ⟨m1, m2, m3, m4⟩ := hS s (by omega)
    have hz := (hB s (by omega)).2
    have hf := (hB s (by omega)).1
    have hmn : mnA (si s) (tcs n β (tr 0) (st 0)) ≤ si s ∧ mnA (si s) (tcs n β (tr 0) (st 0)) ≤ tcs n β (tr 0) (st 0) ∧ (mnA (si s) (tcs n β (tr 0) (st 0)) = si s ∨ mnA (si s) (tcs n β (tr 0) (st 0)) = tcs n β (tr 0) (st 0)) := by unfold mnA; split <;> omega
    rw [if_pos (chk_nI (by omega) (by omega)), nI_clamp (show s < 2 ^ 31 by omega), m1]
    cases q : lo s with
    | true =>
      rw [show wrA lo si it (tcs n β (tr 0) (st 0)) (tvs n β (tr 0) (st 0)) fd (nI s) = ((-10 : Int32) - 1, it, 1) from by unfold wrA; rw [if_pos c1, nI_clamp (by omega), q, if_pos rfl], if_pos (show bI (!true) = 0 from rfl)]
      unfold fX7_meets
      rw [Option.bind_some]
      exact ⟨_, rfl, rfl, hS0, rfl⟩
    | false =>
      rw [show wrA lo si it (tcs n β (tr 0) (st 0)) (tvs n β (tr 0) (st 0)) fd (nI s) = (nI (mnA (si s) (tcs n β (tr 0) (st 0))), ix it s (fun i => if i < mnA (si s) (tcs n β (tr 0) (st 0)) then nI (tvs n β (tr 0) (st 0) i) else it s i), fd) from by unfold wrA; rw [if_pos c1, nI_clamp (by omega), q, if_neg Bool.false_ne_true], if_neg (show ¬ bI (!false) = 0 by decide)]
      obtain ⟨mi, ge, lf, e1, e2, e3, e4⟩ := goAll_eq (N := N) (n := n) (β := β) (typed := typed) (texts := texts) (coming := coming) (going := going) (worn := worn) (rowOf := rowOf) (manyIn := manyIn) (comes := comes) (came := came) (goes := goes) (wears := wears) (laid := laid) (judgedNow := judgedNow) (goers := goers) (goer := goer) (lfo := lfo) (row := tr 0) (dp := st 0) false (by omega) hT (row_of hR) hs0.2
      have hg : gd false n β = lt β 1 := rfl
      rw [hg] at e1 e3 e4
      have e1' : fX7_goAll N typed texts comes coming came goes going wears worn rowOf (nI (st 0)) laid judgedNow manyIn goers goer lfo 0 = _ := e1
      rw [e1', Option.bind_some]
      simp only
      generalize hgm : mnA (si s) (tcs n β (tr 0) (st 0)) = m at hmn
      obtain ⟨w, hw, e⟩ := lp_for (b := bX7_write_33 N typed texts rowOf (nI (st 0)) isThere forms sizes (nI s) (nI (tC n β)) (fl coming (fun k => nI (β 0 k - 97)) (tC n β)) (M (cS n β)) (nI (tG n β)) (fl going (fun k => nI (β 1 k - 97)) (tG n β)) (nI (tW n β)) (fl worn (fun k => nI (β 2 k - 97)) (tW n β)) (M (LSs (tr 0) (st 0) n β)) (J_G (tr 0) (lt β 0) (st 0) (tC n β)) mi (nI (tcs n β (tr 0) (st 0))) ge lf fd) m (fun j z => ∃ i' : Nat → Int32, z = (nI j, i') ∧ ShM lo fo si (ix it s (fun i => if i < j then nI (tvs n β (tr 0) (st 0) i) else it s i)) isThere forms sizes i') (fun w => ∃ i' : Nat → Int32, w = some (nI m, nI (tC n β), fl coming (fun k => nI (β 0 k - 97)) (tC n β), M (cS n β), nI (tG n β), fl going (fun k => nI (β 1 k - 97)) (tG n β), nI (tW n β), fl worn (fun k => nI (β 2 k - 97)) (tW n β), M (LSs (tr 0) (st 0) n β), J_G (tr 0) (lt β 0) (st 0) (tC n β), mi, nI (tcs n β (tr 0) (st 0)), ge, lf, i', fd) ∧ ShM lo fo si (ix it s (fun i => if i < m then nI (tvs n β (tr 0) (st 0) i) else it s i)) isThere forms sizes i')
        (fun j z hj hp => by
          obtain ⟨i', rfl, p1⟩ := hp
          left
          have hv := htv j (by omega)
          have k1 := keep7_eq p1 hs (show j < 48 by omega) (nI (tvs n β (tr 0) (st 0) j))
          rw [lw_small _ hf _ hv] at k1
          refine ⟨_, ⟨upd i' (48 * s + j) (nI (tvs n β (tr 0) (st 0) j)), rfl, ?_⟩, fun κ => ?_⟩
          · have k2 := ShM_put p1 hs (show j < 48 by omega) (nI (tvs n β (tr 0) (st 0) j))
            have ef : ix (ix it s (fun i => if i < j then nI (tvs n β (tr 0) (st 0) i) else it s i)) s (upd (ix it s (fun i => if i < j then nI (tvs n β (tr 0) (st 0) i) else it s i) s) j (nI (tvs n β (tr 0) (st 0) j))) = ix it s (fun i => if i < j + 1 then nI (tvs n β (tr 0) (st 0) i) else it s i) := by
              funext x
              by_cases c : x = s
              · subst c
                rw [ix_s, ix_s, ix_s]
                funext i
                unfold upd
                by_cases d : i = j
                · rw [if_pos d, if_pos (by omega), d]
                · rw [if_neg d]
                  show (if i < j then nI (tvs n β (tr 0) (st 0) i) else it x i) = if i < j + 1 then nI (tvs n β (tr 0) (st 0) i) else it x i
                  by_cases d2 : i < j
                  · rw [if_pos d2, if_pos (by omega)]
                  · rw [if_neg d2, if_neg (by omega)]
              · rw [ix_o c, ix_o c, ix_o c]
            rw [ef] at k2
            exact k2
          · unfold bX7_write_33
            simp only
            rw [if_pos (chk_nI (by omega) (by omega)), nI_clamp (show s < 2 ^ 31 by omega), m3, if_neg (by rw [nI_leI (by omega) (by omega)]; omega), if_neg (by rw [nI_leI (by omega) (by omega)]; omega), if_pos (chk_nI (by omega) (by omega)), nI_clamp (show j < 2 ^ 31 by omega), e4 j (show j < tcs n β (tr 0) (st 0) by omega), k1, Option.bind_some, nI_1])
        (fun z hp => by
          obtain ⟨i', rfl, p1⟩ := hp
          refine ⟨_, ⟨i', rfl, p1⟩, fun κ => ?_⟩
          unfold bX7_write_33
          simp only
          rw [if_pos (chk_nI (by omega) (by omega)), nI_clamp (show s < 2 ^ 31 by omega), m3]
          rcases hmn.2.2 with h | h
          · rw [if_pos (by rw [nI_leI (by omega) (by omega)]; omega)]
          · by_cases c : si s ≤ m
            · rw [if_pos (by rw [nI_leI (by omega) (by omega)]; exact c)]
            · rw [if_neg (by rw [nI_leI (by omega) (by omega)]; exact c), if_pos (by rw [nI_leI (by omega) (by omega)]; omega)])
        (k := 0) (s := (0, items)) (N := N) (by omega) ⟨items, rfl, by
          have ef : ix it s (fun i => if i < 0 then nI (tvs n β (tr 0) (st 0) i) else it s i) = it := by
            funext x
            by_cases c : x = s
            · subst c; rw [ix_s]; funext i; rw [if_neg (by omega)]
            · rw [ix_o c]
          rw [ef]; exact hS0⟩ (by omega)
      obtain ⟨i', a1, a2⟩ := hw
      rw [e, a1]
      exact ⟨_, rfl, rfl, a2, rfl⟩
  · rw [if_neg c1, if_pos i00, show wrA lo si it (tcs n β (tr 0) (st 0)) (tvs n β (tr 0) (st 0)) fd p = (-2, it, fd) from if_neg c1]
    exact ⟨_, rfl, rfl, hS0, rfl⟩
end RW

/-! ===== type, wipe, undo, guest, set (printed by wip/gen/genmut.py) ===== -/
def bx (β : Nat → Nat → Nat) (t k v : Nat) : Nat → Nat → Nat := fun s i => if s = t ∧ i = k then v else β s i
theorem TX_push {n : Nat → Nat} {β : Nat → Nat → Nat} {t v : Nat} {b : Nat → Int32} {z : Int32} (h : TX n β t b z) (h1 : n t < 10) (hv : v < 256) : TX (ux n t (n t + 1)) (bx β t (n t) v) t (upd b (n t) (nI v)) (nI (n t + 1)) := by
  unfold TX
  rw [ux_s]
  refine ⟨rfl, by omega, fun k hk => ?_⟩
  unfold upd bx
  by_cases c : k = n t
  · rw [if_pos c, if_pos ⟨rfl, c⟩]; exact ⟨rfl, hv⟩
  · rw [if_neg c, if_neg (fun z => c z.2)]; exact h.2.2 k (by omega)
theorem ux_o {f : Nat → Nat} {k v i : Nat} (h : i ≠ k) : ux f k v i = f i := if_neg h
theorem TX_oth {n : Nat → Nat} {β : Nat → Nat → Nat} {t s x k v : Nat} {b : Nat → Int32} {z : Int32} (hs : s ≠ t) (h : TX n β s b z) : TX (ux n t x) (bx β t k v) s b z := by
  unfold TX
  rw [ux_o hs]
  refine ⟨h.1, h.2.1, fun i hi => ?_⟩
  unfold bx
  rw [if_neg (fun z => hs z.1)]
  exact h.2.2 i hi
theorem TX_cut {n : Nat → Nat} {β : Nat → Nat → Nat} {t m : Nat} {b : Nat → Int32} {z : Int32} (h : TX n β t b z) (hm : m ≤ n t) : TX (ux n t m) β t b (nI m) := by
  unfold TX
  rw [ux_s]
  have := h.2.1
  exact ⟨rfl, by omega, fun k hk => h.2.2 k (by omega)⟩
theorem TX_oth2 {n : Nat → Nat} {β : Nat → Nat → Nat} {t s x : Nat} {b : Nat → Int32} {z : Int32} (hs : s ≠ t) (h : TX n β s b z) : TX (ux n t x) β s b z := by
  unfold TX
  rw [ux_o hs]
  exact h
theorem TM_push {n : Nat → Nat} {β : Nat → Nat → Nat} {t v : Nat} {typed texts : Nat → Int32} (ht : t < 3) (h : TM n β typed texts) (h1 : n t < 10) (hv : v < 256) : TM (ux n t (n t + 1)) (bx β t (n t) v) (upd typed t (nI (n t + 1))) (upd texts (10 * t + n t) (nI v)) := by
  intro s hs
  by_cases c : s = t
  · subst c
    rw [pk_us, ux_s]
    refine ⟨rfl, by omega, fun k hk => ?_⟩
    unfold upd bx
    by_cases d : k = n s
    · rw [if_pos (by omega), if_pos ⟨rfl, d⟩]; exact ⟨rfl, hv⟩
    · rw [if_neg (by omega), if_neg (fun z => d z.2)]; exact (h s hs).2.2 k (by omega)
  · obtain ⟨a1, a2, a3⟩ := h s hs
    rw [pk_un c, ux_o c]
    refine ⟨a1, a2, fun k hk => ?_⟩
    unfold upd bx
    rw [if_neg (by omega), if_neg (fun z => c z.1)]
    exact a3 k hk
theorem TM_cut {n : Nat → Nat} {β : Nat → Nat → Nat} {t m : Nat} {typed texts : Nat → Int32} (h : TM n β typed texts) (hm : m ≤ n t) : TM (ux n t m) β (upd typed t (nI m)) texts := by
  intro s hs
  obtain ⟨a1, a2, a3⟩ := h s hs
  by_cases c : s = t
  · subst c
    rw [pk_us, ux_s]
    exact ⟨rfl, by omega, fun k hk => a3 k (by omega)⟩
  · rw [pk_un c, ux_o c]
    exact ⟨a1, a2, a3⟩
theorem bx_s (β : Nat → Nat → Nat) (t k v : Nat) : bx β t k v t k = v := if_pos ⟨rfl, rfl⟩
theorem bx_o {β : Nat → Nat → Nat} {t k v s i : Nat} (h : s ≠ t ∨ i ≠ k) : bx β t k v s i = β s i := if_neg (fun z => by rcases h with h | h; exact h z.1; exact h z.2)
theorem dI00 : (nI 0 = (0 : Int32)) = True := eq_true (by decide)
theorem dI01 : (nI 0 = (1 : Int32)) = False := eq_false (by decide)
theorem dI02 : (nI 0 = (2 : Int32)) = False := eq_false (by decide)
theorem dI03 : (nI 0 = (3 : Int32)) = False := eq_false (by decide)
theorem dI10 : (nI 1 = (0 : Int32)) = False := eq_false (by decide)
theorem dI11 : (nI 1 = (1 : Int32)) = True := eq_true (by decide)
theorem dI12 : (nI 1 = (2 : Int32)) = False := eq_false (by decide)
theorem dI13 : (nI 1 = (3 : Int32)) = False := eq_false (by decide)
theorem dI20 : (nI 2 = (0 : Int32)) = False := eq_false (by decide)
theorem dI21 : (nI 2 = (1 : Int32)) = False := eq_false (by decide)
theorem dI22 : (nI 2 = (2 : Int32)) = True := eq_true (by decide)
theorem dI23 : (nI 2 = (3 : Int32)) = False := eq_false (by decide)
theorem dI30 : (nI 3 = (0 : Int32)) = False := eq_false (by decide)
theorem dI31 : (nI 3 = (1 : Int32)) = False := eq_false (by decide)
theorem dI32 : (nI 3 = (2 : Int32)) = False := eq_false (by decide)
theorem dI33 : (nI 3 = (3 : Int32)) = True := eq_true (by decide)
theorem dO (t : Nat) : (nI t = nI t) = True := eq_self _
section MU
variable {N : Nat} {n : Nat → Nat} {β tr : Nat → Nat → Nat} {st : Nat → Nat} {t0_bytes t1_bytes t2_bytes tr0 tr1 tr2 settings h_inRow h_inFrontOf h_liftedFor h_takers g_goesAt g_liftedForThese : Nat → Int32} {t0_size t0_faultAt t0_known t0_bits t1_size t1_faultAt t1_known t2_size t2_faultAt t2_known h_takerCount h_laid h_judgedGuest h_liftedInAll g_many t1_bits t2_bits : Int32} {typed texts rowOf looks minutes : Nat → Int32} {deep room look lift : Int32}
theorem settleT (hN : 20 < N) (h0 : TX n β 0 t0_bytes t0_size) (h1 : TX n β 1 t1_bytes t1_size) (h2 : TX n β 2 t2_bytes t2_size) (hTr : RTr tr tr0 tr1 tr2) (hSt : RSt st settings) : ∃ U, fX6_settle N t0_bytes t0_size t0_faultAt t0_known t0_bits t1_bytes t1_size t1_faultAt t1_known t1_bits t2_bytes t2_size t2_faultAt t2_known t2_bits tr0 settings h_inRow h_inFrontOf h_liftedFor h_takers h_takerCount h_laid h_judgedGuest h_liftedInAll g_many g_goesAt g_liftedForThese = some U ∧ ClsT n β tr st t0_bytes t0_size U.1 U.2.1 U.2.2.1 t1_bytes t1_size U.2.2.2.1 U.2.2.2.2.1 t2_bytes t2_size U.2.2.2.2.2.2.1 U.2.2.2.2.2.2.2.1 tr0 tr1 tr2 settings U.2.2.2.2.2.2.2.2.2.1 U.2.2.2.2.2.2.2.2.2.2.1 U.2.2.2.2.2.2.2.2.2.2.2.1 U.2.2.2.2.2.2.2.2.2.2.2.2.1 U.2.2.2.2.2.2.2.2.2.2.2.2.2.1 U.2.2.2.2.2.2.2.2.2.2.2.2.2.2.1 U.2.2.2.2.2.2.2.2.2.2.2.2.2.2.2.1 U.2.2.2.2.2.2.2.2.2.2.2.2.2.2.2.2.1 U.2.2.2.2.2.2.2.2.2.2.2.2.2.2.2.2.2.1 U.2.2.2.2.2.2.2.2.2.2.2.2.2.2.2.2.2.2.1 U.2.2.2.2.2.2.2.2.2.2.2.2.2.2.2.2.2.2.2 := by
  obtain ⟨q1, q2, ir', fo', lf', tk', gt', lft', e, r1, r2⟩ := settle_eq (N := N) (n := n) (β := β) (row := tr 0) (dp := st 0) (b0 := t0_bytes) (b1 := t1_bytes) (b2 := t2_bytes) (tr0 := tr0) (se := settings) (ir := h_inRow) (fo := h_inFrontOf) (lf := h_liftedFor) (tk := h_takers) (gt := g_goesAt) (lft := g_liftedForThese) (z0 := t0_size) (z1 := t1_size) (z2 := t2_size) (x1 := t0_faultAt) (x2 := t0_known) (x3 := t0_bits) (x4 := t1_faultAt) (x5 := t1_known) (x6 := t1_bits) (x7 := t2_faultAt) (x8 := t2_known) (x9 := t2_bits) (y1 := h_takerCount) (y2 := h_laid) (y3 := h_judgedGuest) (y4 := h_liftedInAll) (y5 := g_many) hN h0 h1 h2 (fun g hg => (hTr g hg).1) (hSt.2 0 (by omega)) hSt.1.1.2
  exact ⟨_, e, h0, h1, h2, hTr, hSt, ⟨rfl, rfl, rfl, rfl, rfl, rfl, rfl⟩, r1, r2⟩
def tyA (n : Nat → Nat) (β : Nat → Nat → Nat) (p q : Int32) : Int32 × (Nat → Nat) × (Nat → Nat → Nat) := if (0 ≤ p ∧ p ≤ 2) ∧ (0 ≤ q ∧ q ≤ 255) then (if n (Int32.toNatClampNeg p) = 10 then (-4, n, β) else (nI (n (Int32.toNatClampNeg p) + 1), ux n (Int32.toNatClampNeg p) (n (Int32.toNatClampNeg p) + 1), bx β (Int32.toNatClampNeg p) (n (Int32.toNatClampNeg p)) (Int32.toNatClampNeg q))) else (-2, n, β)
theorem type6 (hN : 20 < N) (hC : ClsT n β tr st t0_bytes t0_size t0_faultAt t0_known t0_bits t1_bytes t1_size t1_faultAt t1_known t2_bytes t2_size t2_faultAt t2_known tr0 tr1 tr2 settings h_inRow h_inFrontOf h_liftedFor h_takers h_takerCount h_laid h_judgedGuest h_liftedInAll g_many g_goesAt g_liftedForThese) (p q : Int32) : ∃ R, fX6_type N t0_bytes t0_size t0_faultAt t0_known t0_bits t1_bytes t1_size t1_faultAt t1_known t1_bits t2_bytes t2_size t2_faultAt t2_known t2_bits tr0 settings h_inRow h_inFrontOf h_liftedFor h_takers h_takerCount h_laid h_judgedGuest h_liftedInAll g_many g_goesAt g_liftedForThese p q = some R ∧ R.1 = (tyA n β p q).1 ∧ ClsT (tyA n β p q).2.1 (tyA n β p q).2.2 tr st R.2.1 R.2.2.1 R.2.2.2.1 R.2.2.2.2.1 R.2.2.2.2.2.1 R.2.2.2.2.2.2.1 R.2.2.2.2.2.2.2.1 R.2.2.2.2.2.2.2.2.1 R.2.2.2.2.2.2.2.2.2.1 R.2.2.2.2.2.2.2.2.2.2.2.1 R.2.2.2.2.2.2.2.2.2.2.2.2.1 R.2.2.2.2.2.2.2.2.2.2.2.2.2.1 R.2.2.2.2.2.2.2.2.2.2.2.2.2.2.1 tr0 tr1 tr2 settings R.2.2.2.2.2.2.2.2.2.2.2.2.2.2.2.2.1 R.2.2.2.2.2.2.2.2.2.2.2.2.2.2.2.2.2.1 R.2.2.2.2.2.2.2.2.2.2.2.2.2.2.2.2.2.2.1 R.2.2.2.2.2.2.2.2.2.2.2.2.2.2.2.2.2.2.2.1 R.2.2.2.2.2.2.2.2.2.2.2.2.2.2.2.2.2.2.2.2.1 R.2.2.2.2.2.2.2.2.2.2.2.2.2.2.2.2.2.2.2.2.2.1 R.2.2.2.2.2.2.2.2.2.2.2.2.2.2.2.2.2.2.2.2.2.2.1 R.2.2.2.2.2.2.2.2.2.2.2.2.2.2.2.2.2.2.2.2.2.2.2.1 R.2.2.2.2.2.2.2.2.2.2.2.2.2.2.2.2.2.2.2.2.2.2.2.2.1 R.2.2.2.2.2.2.2.2.2.2.2.2.2.2.2.2.2.2.2.2.2.2.2.2.2.1 R.2.2.2.2.2.2.2.2.2.2.2.2.2.2.2.2.2.2.2.2.2.2.2.2.2.2 := by
  have hC0 := hC
  obtain ⟨h0, h1, h2, hTr, hSt, -⟩ := hC
  unfold fX6_type
  rw [within_eq, Option.bind_some]
  by_cases c1 : 0 ≤ p ∧ p ≤ 2
  · rw [if_pos c1, if_neg i10, within_eq, Option.bind_some]
    by_cases c2 : 0 ≤ q ∧ q ≤ 255
    · rw [if_pos c2, if_neg i10]
      obtain ⟨v, v1, rfl⟩ := ncase (m := 255) (by decide) c2
      obtain ⟨t, t1, rfl⟩ := ncase (m := 2) (by decide) c1
      by_cases c3 : n t = 10
      · rw [show tyA n β (nI t) (nI v) = (-4, n, β) from by unfold tyA; rw [if_pos ⟨c1, c2⟩, nI_clamp (by omega), if_pos c3]]
        rcases (show t = 0 ∨ t = 1 ∨ t = 2 by omega) with e | e | e <;> subst e <;> simp only [dI00, dI01, dI02, dI03, dI10, dI11, dI12, dI13, dI20, dI21, dI22, dI23, dI30, dI31, dI32, dI33, if_true, if_false]
        · rw [if_neg (by rw [h0.1, c3]; decide)]
          exact ⟨_, rfl, rfl, hC0⟩
        · rw [if_neg (by rw [h1.1, c3]; decide)]
          exact ⟨_, rfl, rfl, hC0⟩
        · rw [if_neg (by rw [h2.1, c3]; decide)]
          exact ⟨_, rfl, rfl, hC0⟩
      · rw [show tyA n β (nI t) (nI v) = (nI (n t + 1), ux n t (n t + 1), bx β t (n t) v) from by unfold tyA; rw [if_pos ⟨c1, c2⟩, nI_clamp (by omega), nI_clamp (by omega), if_neg c3]]
        rcases (show t = 0 ∨ t = 1 ∨ t = 2 by omega) with e | e | e <;> subst e <;> simp only [dI00, dI01, dI02, dI03, dI10, dI11, dI12, dI13, dI20, dI21, dI22, dI23, dI30, dI31, dI32, dI33, if_true, if_false]
        · have hb := h0.2.1
          obtain ⟨U, e1, e2⟩ := settleT (N := N) (n := ux n 0 (n 0 + 1)) (β := bx β 0 (n 0) v) (tr := tr) (st := st) (t0_faultAt := t0_faultAt) (t0_known := t0_known) (t0_bits := t0_bits) (t1_faultAt := t1_faultAt) (t1_known := t1_known) (t1_bits := t1_bits) (t2_faultAt := t2_faultAt) (t2_known := t2_known) (t2_bits := t2_bits) (h_inRow := h_inRow) (h_inFrontOf := h_inFrontOf) (h_liftedFor := h_liftedFor) (h_takers := h_takers) (h_takerCount := h_takerCount) (h_laid := h_laid) (h_judgedGuest := h_judgedGuest) (h_liftedInAll := h_liftedInAll) (g_many := g_many) (g_goesAt := g_goesAt) (g_liftedForThese := g_liftedForThese) hN (TX_push h0 (by have := h0.2.1; omega) (by omega)) (TX_oth (by omega) h1) (TX_oth (by omega) h2) hTr hSt
          rw [h0.1, if_pos (by rw [li10, nI_ltI (by omega) (by omega)]; omega), if_pos (chk_nI (by omega) (by omega)), nI_clamp (by omega), nI_1, e1, Option.bind_some]
          exact ⟨_, rfl, rfl, e2⟩
        · have hb := h1.2.1
          obtain ⟨U, e1, e2⟩ := settleT (N := N) (n := ux n 1 (n 1 + 1)) (β := bx β 1 (n 1) v) (tr := tr) (st := st) (t0_faultAt := t0_faultAt) (t0_known := t0_known) (t0_bits := t0_bits) (t1_faultAt := t1_faultAt) (t1_known := t1_known) (t1_bits := t1_bits) (t2_faultAt := t2_faultAt) (t2_known := t2_known) (t2_bits := t2_bits) (h_inRow := h_inRow) (h_inFrontOf := h_inFrontOf) (h_liftedFor := h_liftedFor) (h_takers := h_takers) (h_takerCount := h_takerCount) (h_laid := h_laid) (h_judgedGuest := h_judgedGuest) (h_liftedInAll := h_liftedInAll) (g_many := g_many) (g_goesAt := g_goesAt) (g_liftedForThese := g_liftedForThese) hN (TX_oth (by omega) h0) (TX_push h1 (by have := h1.2.1; omega) (by omega)) (TX_oth (by omega) h2) hTr hSt
          rw [h1.1, if_pos (by rw [li10, nI_ltI (by omega) (by omega)]; omega), if_pos (chk_nI (by omega) (by omega)), nI_clamp (by omega), nI_1, e1, Option.bind_some]
          exact ⟨_, rfl, rfl, e2⟩
        · have hb := h2.2.1
          obtain ⟨U, e1, e2⟩ := settleT (N := N) (n := ux n 2 (n 2 + 1)) (β := bx β 2 (n 2) v) (tr := tr) (st := st) (t0_faultAt := t0_faultAt) (t0_known := t0_known) (t0_bits := t0_bits) (t1_faultAt := t1_faultAt) (t1_known := t1_known) (t1_bits := t1_bits) (t2_faultAt := t2_faultAt) (t2_known := t2_known) (t2_bits := t2_bits) (h_inRow := h_inRow) (h_inFrontOf := h_inFrontOf) (h_liftedFor := h_liftedFor) (h_takers := h_takers) (h_takerCount := h_takerCount) (h_laid := h_laid) (h_judgedGuest := h_judgedGuest) (h_liftedInAll := h_liftedInAll) (g_many := g_many) (g_goesAt := g_goesAt) (g_liftedForThese := g_liftedForThese) hN (TX_oth (by omega) h0) (TX_oth (by omega) h1) (TX_push h2 (by have := h2.2.1; omega) (by omega)) hTr hSt
          rw [h2.1, if_pos (by rw [li10, nI_ltI (by omega) (by omega)]; omega), if_pos (chk_nI (by omega) (by omega)), nI_clamp (by omega), nI_1, e1, Option.bind_some]
          exact ⟨_, rfl, rfl, e2⟩
    · rw [if_neg c2, if_pos i00, show tyA n β p q = (-2, n, β) from if_neg (fun z => c2 z.2)]
      exact ⟨_, rfl, rfl, hC0⟩
  · rw [if_neg c1, if_pos i00, show tyA n β p q = (-2, n, β) from if_neg (fun z => c1 z.1)]
    exact ⟨_, rfl, rfl, hC0⟩
theorem type7 (hM : ModT n β tr st typed texts rowOf looks minutes deep room look lift) (p q : Int32) : ∃ S, fX7_type typed texts p q = some S ∧ S.1 = (tyA n β p q).1 ∧ ModT (tyA n β p q).2.1 (tyA n β p q).2.2 tr st S.2.1 S.2.2 rowOf looks minutes deep room look lift := by
  have hM0 := hM
  obtain ⟨hT, hM2⟩ := hM
  unfold fX7_type fX7_isText
  rw [in_eq, Option.bind_some, if_pos (b01 _), Option.bind_some]
  by_cases c1 : 0 ≤ p ∧ p ≤ 2
  · rw [if_pos c1, if_neg i10, in_eq, Option.bind_some]
    by_cases c2 : 0 ≤ q ∧ q ≤ 255
    · rw [if_pos c2, if_neg i10]
      obtain ⟨v, v1, rfl⟩ := ncase (m := 255) (by decide) c2
      obtain ⟨t, t1, rfl⟩ := ncase (m := 2) (by decide) c1
      obtain ⟨y1, y2, y3⟩ := hT t (by omega)
      rw [if_pos (chk_nI (by omega) (by omega)), nI_clamp (show t < 2 ^ 31 by omega), y1]
      by_cases c3 : n t = 10
      · rw [if_pos (by rw [c3]; rfl), show tyA n β (nI t) (nI v) = (-4, n, β) from by unfold tyA; rw [if_pos ⟨c1, c2⟩, nI_clamp (by omega), if_pos c3]]
        exact ⟨_, rfl, rfl, hM0⟩
      · have hT2 := TM_push (v := v) (show t < 3 by omega) hT (by omega) (by omega)
        rw [if_neg (by rw [li10, nI_eq (by omega) (by omega)]; exact c3), if_pos (chk_nI (by omega) (by omega)), li10, pk_mul, nI_add, if_pos (chk_nI (by omega) (by omega)), if_pos (chk_nI (by omega) (by omega)), if_pos (chk_nI (by omega) (by omega)), if_pos (chk_nI (by omega) (by omega)), nI_clamp (show 10 * t + n t < 2 ^ 31 by omega), nI_1, pk_us, show tyA n β (nI t) (nI v) = (nI (n t + 1), ux n t (n t + 1), bx β t (n t) v) from by unfold tyA; rw [if_pos ⟨c1, c2⟩, nI_clamp (by omega), nI_clamp (by omega), if_neg c3]]
        exact ⟨_, rfl, rfl, hT2, hM2⟩
    · rw [if_neg c2, if_pos i00, show tyA n β p q = (-2, n, β) from if_neg (fun z => c2 z.2)]
      exact ⟨_, rfl, rfl, hM0⟩
  · rw [if_neg c1, if_pos i00, show tyA n β p q = (-2, n, β) from if_neg (fun z => c1 z.1)]
    exact ⟨_, rfl, rfl, hM0⟩
def wiA (n : Nat → Nat) (p : Int32) : Int32 × (Nat → Nat) := if 0 ≤ p ∧ p ≤ 2 then (nI (n (Int32.toNatClampNeg p)), ux n (Int32.toNatClampNeg p) 0) else (-2, n)
theorem wipe6 (hN : 20 < N) (hC : ClsT n β tr st t0_bytes t0_size t0_faultAt t0_known t0_bits t1_bytes t1_size t1_faultAt t1_known t2_bytes t2_size t2_faultAt t2_known tr0 tr1 tr2 settings h_inRow h_inFrontOf h_liftedFor h_takers h_takerCount h_laid h_judgedGuest h_liftedInAll g_many g_goesAt g_liftedForThese) (p : Int32) : ∃ R, fX6_wipe N t0_bytes t0_size t0_faultAt t0_known t0_bits t1_bytes t1_size t1_faultAt t1_known t1_bits t2_bytes t2_size t2_faultAt t2_known t2_bits tr0 settings h_inRow h_inFrontOf h_liftedFor h_takers h_takerCount h_laid h_judgedGuest h_liftedInAll g_many g_goesAt g_liftedForThese p = some R ∧ R.1 = (wiA n p).1 ∧ ClsT (wiA n p).2 β tr st t0_bytes R.2.1 R.2.2.1 R.2.2.2.1 R.2.2.2.2.1 t1_bytes R.2.2.2.2.2.1 R.2.2.2.2.2.2.1 R.2.2.2.2.2.2.2.1 t2_bytes R.2.2.2.2.2.2.2.2.2.1 R.2.2.2.2.2.2.2.2.2.2.1 R.2.2.2.2.2.2.2.2.2.2.2.1 tr0 tr1 tr2 settings R.2.2.2.2.2.2.2.2.2.2.2.2.2.1 R.2.2.2.2.2.2.2.2.2.2.2.2.2.2.1 R.2.2.2.2.2.2.2.2.2.2.2.2.2.2.2.1 R.2.2.2.2.2.2.2.2.2.2.2.2.2.2.2.2.1 R.2.2.2.2.2.2.2.2.2.2.2.2.2.2.2.2.2.1 R.2.2.2.2.2.2.2.2.2.2.2.2.2.2.2.2.2.2.1 R.2.2.2.2.2.2.2.2.2.2.2.2.2.2.2.2.2.2.2.1 R.2.2.2.2.2.2.2.2.2.2.2.2.2.2.2.2.2.2.2.2.1 R.2.2.2.2.2.2.2.2.2.2.2.2.2.2.2.2.2.2.2.2.2.1 R.2.2.2.2.2.2.2.2.2.2.2.2.2.2.2.2.2.2.2.2.2.2.1 R.2.2.2.2.2.2.2.2.2.2.2.2.2.2.2.2.2.2.2.2.2.2.2 := by
  have hC0 := hC
  obtain ⟨h0, h1, h2, hTr, hSt, -⟩ := hC
  unfold fX6_wipe
  rw [within_eq, Option.bind_some]
  by_cases c1 : 0 ≤ p ∧ p ≤ 2
  · rw [if_pos c1, if_neg i10]
    obtain ⟨t, t1, rfl⟩ := ncase (m := 2) (by decide) c1
    rw [show wiA n (nI t) = (nI (n t), ux n t 0) from by unfold wiA; rw [if_pos c1, nI_clamp (by omega)]]
    rcases (show t = 0 ∨ t = 1 ∨ t = 2 by omega) with e | e | e <;> subst e <;> simp only [dI00, dI01, dI02, dI03, dI10, dI11, dI12, dI13, dI20, dI21, dI22, dI23, dI30, dI31, dI32, dI33, if_true, if_false]
    · obtain ⟨U, e1, e2⟩ := settleT (N := N) (n := ux n 0 0) (β := β) (tr := tr) (st := st) (t0_faultAt := t0_faultAt) (t0_known := t0_known) (t0_bits := t0_bits) (t1_faultAt := t1_faultAt) (t1_known := t1_known) (t1_bits := t1_bits) (t2_faultAt := t2_faultAt) (t2_known := t2_known) (t2_bits := t2_bits) (h_inRow := h_inRow) (h_inFrontOf := h_inFrontOf) (h_liftedFor := h_liftedFor) (h_takers := h_takers) (h_takerCount := h_takerCount) (h_laid := h_laid) (h_judgedGuest := h_judgedGuest) (h_liftedInAll := h_liftedInAll) (g_many := g_many) (g_goesAt := g_goesAt) (g_liftedForThese := g_liftedForThese) hN (TX_cut (m := 0) h0 (by omega)) (TX_oth2 (by omega) h1) (TX_oth2 (by omega) h2) hTr hSt
      rw [show (0 : Int32) = nI 0 from rfl, e1, Option.bind_some]
      exact ⟨_, rfl, h0.1, e2⟩
    · obtain ⟨U, e1, e2⟩ := settleT (N := N) (n := ux n 1 0) (β := β) (tr := tr) (st := st) (t0_faultAt := t0_faultAt) (t0_known := t0_known) (t0_bits := t0_bits) (t1_faultAt := t1_faultAt) (t1_known := t1_known) (t1_bits := t1_bits) (t2_faultAt := t2_faultAt) (t2_known := t2_known) (t2_bits := t2_bits) (h_inRow := h_inRow) (h_inFrontOf := h_inFrontOf) (h_liftedFor := h_liftedFor) (h_takers := h_takers) (h_takerCount := h_takerCount) (h_laid := h_laid) (h_judgedGuest := h_judgedGuest) (h_liftedInAll := h_liftedInAll) (g_many := g_many) (g_goesAt := g_goesAt) (g_liftedForThese := g_liftedForThese) hN (TX_oth2 (by omega) h0) (TX_cut (m := 0) h1 (by omega)) (TX_oth2 (by omega) h2) hTr hSt
      rw [show (0 : Int32) = nI 0 from rfl, e1, Option.bind_some]
      exact ⟨_, rfl, h1.1, e2⟩
    · obtain ⟨U, e1, e2⟩ := settleT (N := N) (n := ux n 2 0) (β := β) (tr := tr) (st := st) (t0_faultAt := t0_faultAt) (t0_known := t0_known) (t0_bits := t0_bits) (t1_faultAt := t1_faultAt) (t1_known := t1_known) (t1_bits := t1_bits) (t2_faultAt := t2_faultAt) (t2_known := t2_known) (t2_bits := t2_bits) (h_inRow := h_inRow) (h_inFrontOf := h_inFrontOf) (h_liftedFor := h_liftedFor) (h_takers := h_takers) (h_takerCount := h_takerCount) (h_laid := h_laid) (h_judgedGuest := h_judgedGuest) (h_liftedInAll := h_liftedInAll) (g_many := g_many) (g_goesAt := g_goesAt) (g_liftedForThese := g_liftedForThese) hN (TX_oth2 (by omega) h0) (TX_oth2 (by omega) h1) (TX_cut (m := 0) h2 (by omega)) hTr hSt
      rw [show (0 : Int32) = nI 0 from rfl, e1, Option.bind_some]
      exact ⟨_, rfl, h2.1, e2⟩
  · rw [if_neg c1, if_pos i00, show wiA n p = (-2, n) from if_neg c1]
    exact ⟨_, rfl, rfl, hC0⟩
theorem wipe7 (hM : ModT n β tr st typed texts rowOf looks minutes deep room look lift) (p : Int32) : ∃ S, fX7_wipe typed p = some S ∧ S.1 = (wiA n p).1 ∧ ModT (wiA n p).2 β tr st S.2 texts rowOf looks minutes deep room look lift := by
  have hM0 := hM
  obtain ⟨hT, hM2⟩ := hM
  unfold fX7_wipe fX7_isText
  rw [in_eq, Option.bind_some, if_pos (b01 _), Option.bind_some]
  by_cases c1 : 0 ≤ p ∧ p ≤ 2
  · rw [if_pos c1, if_neg i10]
    obtain ⟨t, t1, rfl⟩ := ncase (m := 2) (by decide) c1
    obtain ⟨y1, y2, y3⟩ := hT t (by omega)
    have hT2 := TM_cut (t := t) (m := 0) hT (by omega)
    rw [if_pos (chk_nI (by omega) (by omega)), if_pos (chk_nI (by omega) (by omega)), nI_clamp (show t < 2 ^ 31 by omega), y1, show wiA n (nI t) = (nI (n t), ux n t 0) from by unfold wiA; rw [if_pos c1, nI_clamp (by omega)]]
    exact ⟨_, rfl, rfl, hT2, hM2⟩
  · rw [if_neg c1, if_pos i00, show wiA n p = (-2, n) from if_neg c1]
    exact ⟨_, rfl, rfl, hM0⟩
def unA (n : Nat → Nat) (p : Int32) : Int32 × (Nat → Nat) := if 0 ≤ p ∧ p ≤ 2 then (if n (Int32.toNatClampNeg p) = 0 then (-3, n) else (nI (n (Int32.toNatClampNeg p) - 1), ux n (Int32.toNatClampNeg p) (n (Int32.toNatClampNeg p) - 1))) else (-2, n)
theorem undo6 (hN : 20 < N) (hC : ClsT n β tr st t0_bytes t0_size t0_faultAt t0_known t0_bits t1_bytes t1_size t1_faultAt t1_known t2_bytes t2_size t2_faultAt t2_known tr0 tr1 tr2 settings h_inRow h_inFrontOf h_liftedFor h_takers h_takerCount h_laid h_judgedGuest h_liftedInAll g_many g_goesAt g_liftedForThese) (p : Int32) : ∃ R, fX6_undo N t0_bytes t0_size t0_faultAt t0_known t0_bits t1_bytes t1_size t1_faultAt t1_known t1_bits t2_bytes t2_size t2_faultAt t2_known t2_bits tr0 settings h_inRow h_inFrontOf h_liftedFor h_takers h_takerCount h_laid h_judgedGuest h_liftedInAll g_many g_goesAt g_liftedForThese p = some R ∧ R.1 = (unA n p).1 ∧ ClsT (unA n p).2 β tr st t0_bytes R.2.1 R.2.2.1 R.2.2.2.1 R.2.2.2.2.1 t1_bytes R.2.2.2.2.2.1 R.2.2.2.2.2.2.1 R.2.2.2.2.2.2.2.1 t2_bytes R.2.2.2.2.2.2.2.2.2.1 R.2.2.2.2.2.2.2.2.2.2.1 R.2.2.2.2.2.2.2.2.2.2.2.1 tr0 tr1 tr2 settings R.2.2.2.2.2.2.2.2.2.2.2.2.2.1 R.2.2.2.2.2.2.2.2.2.2.2.2.2.2.1 R.2.2.2.2.2.2.2.2.2.2.2.2.2.2.2.1 R.2.2.2.2.2.2.2.2.2.2.2.2.2.2.2.2.1 R.2.2.2.2.2.2.2.2.2.2.2.2.2.2.2.2.2.1 R.2.2.2.2.2.2.2.2.2.2.2.2.2.2.2.2.2.2.1 R.2.2.2.2.2.2.2.2.2.2.2.2.2.2.2.2.2.2.2.1 R.2.2.2.2.2.2.2.2.2.2.2.2.2.2.2.2.2.2.2.2.1 R.2.2.2.2.2.2.2.2.2.2.2.2.2.2.2.2.2.2.2.2.2.1 R.2.2.2.2.2.2.2.2.2.2.2.2.2.2.2.2.2.2.2.2.2.2.1 R.2.2.2.2.2.2.2.2.2.2.2.2.2.2.2.2.2.2.2.2.2.2.2 := by
  have hC0 := hC
  obtain ⟨h0, h1, h2, hTr, hSt, -⟩ := hC
  unfold fX6_undo
  rw [within_eq, Option.bind_some]
  by_cases c1 : 0 ≤ p ∧ p ≤ 2
  · rw [if_pos c1, if_neg i10]
    obtain ⟨t, t1, rfl⟩ := ncase (m := 2) (by decide) c1
    by_cases c3 : n t = 0
    · rw [show unA n (nI t) = (-3, n) from by unfold unA; rw [if_pos c1, nI_clamp (by omega), if_pos c3]]
      rcases (show t = 0 ∨ t = 1 ∨ t = 2 by omega) with e | e | e <;> subst e <;> simp only [dI00, dI01, dI02, dI03, dI10, dI11, dI12, dI13, dI20, dI21, dI22, dI23, dI30, dI31, dI32, dI33, if_true, if_false]
      · rw [if_neg (by rw [h0.1, c3]; decide)]
        exact ⟨_, rfl, rfl, hC0⟩
      · rw [if_neg (by rw [h1.1, c3]; decide)]
        exact ⟨_, rfl, rfl, hC0⟩
      · rw [if_neg (by rw [h2.1, c3]; decide)]
        exact ⟨_, rfl, rfl, hC0⟩
    · rw [show unA n (nI t) = (nI (n t - 1), ux n t (n t - 1)) from by unfold unA; rw [if_pos c1, nI_clamp (by omega), if_neg c3]]
      rcases (show t = 0 ∨ t = 1 ∨ t = 2 by omega) with e | e | e <;> subst e <;> simp only [dI00, dI01, dI02, dI03, dI10, dI11, dI12, dI13, dI20, dI21, dI22, dI23, dI30, dI31, dI32, dI33, if_true, if_false]
      · have hb := h0.2.1
        obtain ⟨U, e1, e2⟩ := settleT (N := N) (n := ux n 0 (n 0 - 1)) (β := β) (tr := tr) (st := st) (t0_faultAt := t0_faultAt) (t0_known := t0_known) (t0_bits := t0_bits) (t1_faultAt := t1_faultAt) (t1_known := t1_known) (t1_bits := t1_bits) (t2_faultAt := t2_faultAt) (t2_known := t2_known) (t2_bits := t2_bits) (h_inRow := h_inRow) (h_inFrontOf := h_inFrontOf) (h_liftedFor := h_liftedFor) (h_takers := h_takers) (h_takerCount := h_takerCount) (h_laid := h_laid) (h_judgedGuest := h_judgedGuest) (h_liftedInAll := h_liftedInAll) (g_many := g_many) (g_goesAt := g_goesAt) (g_liftedForThese := g_liftedForThese) hN (TX_cut (m := n 0 - 1) h0 (by omega)) (TX_oth2 (by omega) h1) (TX_oth2 (by omega) h2) hTr hSt
        rw [h0.1, if_pos (by rw [li1, nI_leI (by omega) (by omega)]; omega), nI_pd (by omega), e1, Option.bind_some]
        exact ⟨_, rfl, rfl, e2⟩
      · have hb := h1.2.1
        obtain ⟨U, e1, e2⟩ := settleT (N := N) (n := ux n 1 (n 1 - 1)) (β := β) (tr := tr) (st := st) (t0_faultAt := t0_faultAt) (t0_known := t0_known) (t0_bits := t0_bits) (t1_faultAt := t1_faultAt) (t1_known := t1_known) (t1_bits := t1_bits) (t2_faultAt := t2_faultAt) (t2_known := t2_known) (t2_bits := t2_bits) (h_inRow := h_inRow) (h_inFrontOf := h_inFrontOf) (h_liftedFor := h_liftedFor) (h_takers := h_takers) (h_takerCount := h_takerCount) (h_laid := h_laid) (h_judgedGuest := h_judgedGuest) (h_liftedInAll := h_liftedInAll) (g_many := g_many) (g_goesAt := g_goesAt) (g_liftedForThese := g_liftedForThese) hN (TX_oth2 (by omega) h0) (TX_cut (m := n 1 - 1) h1 (by omega)) (TX_oth2 (by omega) h2) hTr hSt
        rw [h1.1, if_pos (by rw [li1, nI_leI (by omega) (by omega)]; omega), nI_pd (by omega), e1, Option.bind_some]
        exact ⟨_, rfl, rfl, e2⟩
      · have hb := h2.2.1
        obtain ⟨U, e1, e2⟩ := settleT (N := N) (n := ux n 2 (n 2 - 1)) (β := β) (tr := tr) (st := st) (t0_faultAt := t0_faultAt) (t0_known := t0_known) (t0_bits := t0_bits) (t1_faultAt := t1_faultAt) (t1_known := t1_known) (t1_bits := t1_bits) (t2_faultAt := t2_faultAt) (t2_known := t2_known) (t2_bits := t2_bits) (h_inRow := h_inRow) (h_inFrontOf := h_inFrontOf) (h_liftedFor := h_liftedFor) (h_takers := h_takers) (h_takerCount := h_takerCount) (h_laid := h_laid) (h_judgedGuest := h_judgedGuest) (h_liftedInAll := h_liftedInAll) (g_many := g_many) (g_goesAt := g_goesAt) (g_liftedForThese := g_liftedForThese) hN (TX_oth2 (by omega) h0) (TX_oth2 (by omega) h1) (TX_cut (m := n 2 - 1) h2 (by omega)) hTr hSt
        rw [h2.1, if_pos (by rw [li1, nI_leI (by omega) (by omega)]; omega), nI_pd (by omega), e1, Option.bind_some]
        exact ⟨_, rfl, rfl, e2⟩
  · rw [if_neg c1, if_pos i00, show unA n p = (-2, n) from if_neg c1]
    exact ⟨_, rfl, rfl, hC0⟩
theorem undo7 (hM : ModT n β tr st typed texts rowOf looks minutes deep room look lift) (p : Int32) : ∃ S, fX7_undo typed p = some S ∧ S.1 = (unA n p).1 ∧ ModT (unA n p).2 β tr st S.2 texts rowOf looks minutes deep room look lift := by
  have hM0 := hM
  obtain ⟨hT, hM2⟩ := hM
  unfold fX7_undo fX7_isText
  rw [in_eq, Option.bind_some, if_pos (b01 _), Option.bind_some]
  by_cases c1 : 0 ≤ p ∧ p ≤ 2
  · rw [if_pos c1, if_neg i10]
    obtain ⟨t, t1, rfl⟩ := ncase (m := 2) (by decide) c1
    obtain ⟨y1, y2, y3⟩ := hT t (by omega)
    rw [if_pos (chk_nI (by omega) (by omega)), nI_clamp (show t < 2 ^ 31 by omega), y1]
    by_cases c3 : n t = 0
    · rw [if_pos (by rw [c3]; rfl), show unA n (nI t) = (-3, n) from by unfold unA; rw [if_pos c1, nI_clamp (by omega), if_pos c3]]
      exact ⟨_, rfl, rfl, hM0⟩
    · have hT2 := TM_cut (t := t) (m := n t - 1) hT (by omega)
      rw [if_neg (nI_ne0 (by omega) (by omega)), if_pos (chk_nI (by omega) (by omega)), if_pos (chk_nI (by omega) (by omega)), if_pos (chk_nI (by omega) (by omega)), nI_pd (by omega), pk_us, show unA n (nI t) = (nI (n t - 1), ux n t (n t - 1)) from by unfold unA; rw [if_pos c1, nI_clamp (by omega), if_neg c3]]
      exact ⟨_, rfl, rfl, hT2, hM2⟩
  · rw [if_neg c1, if_pos i00, show unA n p = (-2, n) from if_neg c1]
    exact ⟨_, rfl, rfl, hM0⟩
theorem RTr_0 {a0 a1 a2 : Nat → Int32} (h : RTr tr a0 a1 a2) {g v : Nat} (hv : v ≤ 9) : RTr (bx tr 0 g v) (upd a0 g (nI v)) a1 a2 := by
  intro x hx
  obtain ⟨p1, p2, p3⟩ := h x hx
  rw [bx_o (s := 1) (Or.inl (by omega)), bx_o (s := 2) (Or.inl (by omega))]
  refine ⟨?_, p2, p3⟩
  by_cases d : x = g
  · subst d; rw [pk_us, bx_s]; exact ⟨rfl, by omega⟩
  · rw [pk_un d, bx_o (Or.inr d)]; exact p1
theorem RTr_1 {a0 a1 a2 : Nat → Int32} (h : RTr tr a0 a1 a2) {g v : Nat} (hv : v ≤ 3) : RTr (bx tr 1 g v) a0 (upd a1 g (nI v)) a2 := by
  intro x hx
  obtain ⟨p1, p2, p3⟩ := h x hx
  rw [bx_o (s := 0) (Or.inl (by omega)), bx_o (s := 2) (Or.inl (by omega))]
  refine ⟨p1, ?_, p3⟩
  by_cases d : x = g
  · subst d; rw [pk_us, bx_s]; exact ⟨rfl, by omega⟩
  · rw [pk_un d, bx_o (Or.inr d)]; exact p2
theorem RTr_2 {a0 a1 a2 : Nat → Int32} (h : RTr tr a0 a1 a2) {g v : Nat} (hv : v ≤ 99) : RTr (bx tr 2 g v) a0 a1 (upd a2 g (nI v)) := by
  intro x hx
  obtain ⟨p1, p2, p3⟩ := h x hx
  rw [bx_o (s := 0) (Or.inl (by omega)), bx_o (s := 1) (Or.inl (by omega))]
  refine ⟨p1, p2, ?_⟩
  by_cases d : x = g
  · subst d; rw [pk_us, bx_s]; exact ⟨rfl, by omega⟩
  · rw [pk_un d, bx_o (Or.inr d)]; exact p3
def guA (tr : Nat → Nat → Nat) (p q r : Int32) : Int32 × (Nat → Nat → Nat) := if (0 ≤ p ∧ p ≤ 9) ∧ (0 ≤ q ∧ q ≤ 2) ∧ (0 ≤ r ∧ r ≤ stTM (Int32.toNatClampNeg q)) then (nI (tr (Int32.toNatClampNeg q) (Int32.toNatClampNeg p)), bx tr (Int32.toNatClampNeg q) (Int32.toNatClampNeg p) (Int32.toNatClampNeg r)) else (-2, tr)
theorem guest6 (hN : 20 < N) (hC : ClsT n β tr st t0_bytes t0_size t0_faultAt t0_known t0_bits t1_bytes t1_size t1_faultAt t1_known t2_bytes t2_size t2_faultAt t2_known tr0 tr1 tr2 settings h_inRow h_inFrontOf h_liftedFor h_takers h_takerCount h_laid h_judgedGuest h_liftedInAll g_many g_goesAt g_liftedForThese) (p q r : Int32) : ∃ R, fX6_guest N t0_bytes t0_size t0_faultAt t0_known t0_bits t1_bytes t1_size t1_faultAt t1_known t1_bits t2_bytes t2_size t2_faultAt t2_known t2_bits tr0 tr1 tr2 settings h_inRow h_inFrontOf h_liftedFor h_takers h_takerCount h_laid h_judgedGuest h_liftedInAll g_many g_goesAt g_liftedForThese p q r = some R ∧ R.1 = (guA tr p q r).1 ∧ ClsT n β (guA tr p q r).2 st t0_bytes t0_size R.2.1 R.2.2.1 R.2.2.2.1 t1_bytes t1_size R.2.2.2.2.1 R.2.2.2.2.2.1 t2_bytes t2_size R.2.2.2.2.2.2.2.1 R.2.2.2.2.2.2.2.2.1 R.2.2.2.2.2.2.2.2.2.2.1 R.2.2.2.2.2.2.2.2.2.2.2.1 R.2.2.2.2.2.2.2.2.2.2.2.2.1 settings R.2.2.2.2.2.2.2.2.2.2.2.2.2.1 R.2.2.2.2.2.2.2.2.2.2.2.2.2.2.1 R.2.2.2.2.2.2.2.2.2.2.2.2.2.2.2.1 R.2.2.2.2.2.2.2.2.2.2.2.2.2.2.2.2.1 R.2.2.2.2.2.2.2.2.2.2.2.2.2.2.2.2.2.1 R.2.2.2.2.2.2.2.2.2.2.2.2.2.2.2.2.2.2.1 R.2.2.2.2.2.2.2.2.2.2.2.2.2.2.2.2.2.2.2.1 R.2.2.2.2.2.2.2.2.2.2.2.2.2.2.2.2.2.2.2.2.1 R.2.2.2.2.2.2.2.2.2.2.2.2.2.2.2.2.2.2.2.2.2.1 R.2.2.2.2.2.2.2.2.2.2.2.2.2.2.2.2.2.2.2.2.2.2.1 R.2.2.2.2.2.2.2.2.2.2.2.2.2.2.2.2.2.2.2.2.2.2.2 := by
  have hC0 := hC
  obtain ⟨h0, h1, h2, hTr, hSt, -⟩ := hC
  unfold fX6_guest
  rw [isGuest6_eq, Option.bind_some]
  by_cases c1 : 0 ≤ p ∧ p ≤ 9
  · rw [if_pos c1, if_neg i10, within_eq, Option.bind_some]
    by_cases c2 : 0 ≤ q ∧ q ≤ 2
    · rw [if_pos c2, if_neg i10]
      obtain ⟨g, g1, rfl⟩ := ncase (m := 9) (by decide) c1
      obtain ⟨w, w1, rfl⟩ := ncase (m := 2) (by decide) c2
      have hg := hTr g (by omega)
      rw [if_pos (chk_nI (show w < 3 by omega) (by omega)), nI_clamp (show w < 2 ^ 31 by omega), nI_clamp (show g < 2 ^ 31 by omega), chk_nI (show g < 10 by omega) (by omega), within_eq, Option.bind_some]
      by_cases c3 : 0 ≤ r ∧ r ≤ stTM w
      · rw [if_pos c3, if_neg i10]
        rcases (show w = 0 ∨ w = 1 ∨ w = 2 by omega) with e | e | e <;> subst e <;> simp only [dI00, dI01, dI02, dI03, dI10, dI11, dI12, dI13, dI20, dI21, dI22, dI23, dI30, dI31, dI32, dI33, if_true, if_false]
        · obtain ⟨v, v1, rfl⟩ := ncase (m := 9) (by decide) c3
          obtain ⟨U, e1, e2⟩ := settleT (N := N) (n := n) (β := β) (tr := bx tr 0 g v) (st := st) (t0_faultAt := t0_faultAt) (t0_known := t0_known) (t0_bits := t0_bits) (t1_faultAt := t1_faultAt) (t1_known := t1_known) (t1_bits := t1_bits) (t2_faultAt := t2_faultAt) (t2_known := t2_known) (t2_bits := t2_bits) (h_inRow := h_inRow) (h_inFrontOf := h_inFrontOf) (h_liftedFor := h_liftedFor) (h_takers := h_takers) (h_takerCount := h_takerCount) (h_laid := h_laid) (h_judgedGuest := h_judgedGuest) (h_liftedInAll := h_liftedInAll) (g_many := g_many) (g_goesAt := g_goesAt) (g_liftedForThese := g_liftedForThese) hN h0 h1 h2 (RTr_0 hTr v1) hSt
          rw [e1, Option.bind_some, show guA tr (nI g) (nI 0) (nI v) = (nI (tr 0 g), bx tr 0 g v) from by unfold guA; rw [nI_clamp (show 0 < 2 ^ 31 by omega), nI_clamp (show g < 2 ^ 31 by omega), nI_clamp (show v < 2 ^ 31 by omega), if_pos ⟨c1, c2, c3⟩]]
          exact ⟨_, rfl, hg.1.1, e2⟩
        · obtain ⟨v, v1, rfl⟩ := ncase (m := 3) (by decide) c3
          obtain ⟨U, e1, e2⟩ := settleT (N := N) (n := n) (β := β) (tr := bx tr 1 g v) (st := st) (t0_faultAt := t0_faultAt) (t0_known := t0_known) (t0_bits := t0_bits) (t1_faultAt := t1_faultAt) (t1_known := t1_known) (t1_bits := t1_bits) (t2_faultAt := t2_faultAt) (t2_known := t2_known) (t2_bits := t2_bits) (h_inRow := h_inRow) (h_inFrontOf := h_inFrontOf) (h_liftedFor := h_liftedFor) (h_takers := h_takers) (h_takerCount := h_takerCount) (h_laid := h_laid) (h_judgedGuest := h_judgedGuest) (h_liftedInAll := h_liftedInAll) (g_many := g_many) (g_goesAt := g_goesAt) (g_liftedForThese := g_liftedForThese) hN h0 h1 h2 (RTr_1 hTr v1) hSt
          rw [e1, Option.bind_some, show guA tr (nI g) (nI 1) (nI v) = (nI (tr 1 g), bx tr 1 g v) from by unfold guA; rw [nI_clamp (show 1 < 2 ^ 31 by omega), nI_clamp (show g < 2 ^ 31 by omega), nI_clamp (show v < 2 ^ 31 by omega), if_pos ⟨c1, c2, c3⟩]]
          exact ⟨_, rfl, hg.2.1.1, e2⟩
        · obtain ⟨v, v1, rfl⟩ := ncase (m := 99) (by decide) c3
          obtain ⟨U, e1, e2⟩ := settleT (N := N) (n := n) (β := β) (tr := bx tr 2 g v) (st := st) (t0_faultAt := t0_faultAt) (t0_known := t0_known) (t0_bits := t0_bits) (t1_faultAt := t1_faultAt) (t1_known := t1_known) (t1_bits := t1_bits) (t2_faultAt := t2_faultAt) (t2_known := t2_known) (t2_bits := t2_bits) (h_inRow := h_inRow) (h_inFrontOf := h_inFrontOf) (h_liftedFor := h_liftedFor) (h_takers := h_takers) (h_takerCount := h_takerCount) (h_laid := h_laid) (h_judgedGuest := h_judgedGuest) (h_liftedInAll := h_liftedInAll) (g_many := g_many) (g_goesAt := g_goesAt) (g_liftedForThese := g_liftedForThese) hN h0 h1 h2 (RTr_2 hTr v1) hSt
          rw [e1, Option.bind_some, show guA tr (nI g) (nI 2) (nI v) = (nI (tr 2 g), bx tr 2 g v) from by unfold guA; rw [nI_clamp (show 2 < 2 ^ 31 by omega), nI_clamp (show g < 2 ^ 31 by omega), nI_clamp (show v < 2 ^ 31 by omega), if_pos ⟨c1, c2, c3⟩]]
          exact ⟨_, rfl, hg.2.2.1, e2⟩
      · rw [if_neg c3, if_pos i00, show guA tr (nI g) (nI w) r = (-2, tr) from by unfold guA; rw [nI_clamp (show w < 2 ^ 31 by omega)]; exact if_neg (fun z => c3 z.2.2)]
        exact ⟨_, rfl, rfl, hC0⟩
    · rw [if_neg c2, if_pos i00, show guA tr p q r = (-2, tr) from if_neg (fun z => c2 z.2.1)]
      exact ⟨_, rfl, rfl, hC0⟩
  · rw [if_neg c1, if_pos i00, show guA tr p q r = (-2, tr) from if_neg (fun z => c1 z.1)]
    exact ⟨_, rfl, rfl, hC0⟩
theorem guest7 (hM : ModT n β tr st typed texts rowOf looks minutes deep room look lift) (p q r : Int32) : ∃ S, fX7_guest rowOf looks minutes p q r = some S ∧ S.1 = (guA tr p q r).1 ∧ ModT n β (guA tr p q r).2 st typed texts S.2.1 S.2.2.1 S.2.2.2 deep room look lift := by
  have hM0 := hM
  obtain ⟨hT, hR, hM2⟩ := hM
  unfold fX7_guest
  rw [isGuest7_eq, Option.bind_some]
  by_cases c1 : 0 ≤ p ∧ p ≤ 9
  · rw [if_pos c1, if_neg i10, in_eq, Option.bind_some]
    by_cases c2 : 0 ≤ q ∧ q ≤ 2
    · rw [if_pos c2, if_neg i10]
      obtain ⟨g, g1, rfl⟩ := ncase (m := 9) (by decide) c1
      obtain ⟨w, w1, rfl⟩ := ncase (m := 2) (by decide) c2
      have hg := hR g (by omega)
      unfold bX7_guest_38 bX7_guest_80
      rw [nI_clamp (show g < 2 ^ 31 by omega), chk_nI (show g < 10 by omega) (by omega)]
      rcases (show w = 0 ∨ w = 1 ∨ w = 2 by omega) with e | e | e <;> subst e <;> simp only [dI00, dI01, dI02, dI03, dI10, dI11, dI12, dI13, dI20, dI21, dI22, dI23, dI30, dI31, dI32, dI33, if_true, if_false]
      · rw [in_eq, Option.bind_some]
        by_cases c3 : 0 ≤ r ∧ r ≤ 9
        · rw [if_pos c3, if_neg i10]
          obtain ⟨v, v1, rfl⟩ := ncase (m := 9) (by decide) c3
          rw [show guA tr (nI g) (nI 0) (nI v) = (nI (tr 0 g), bx tr 0 g v) from by unfold guA; rw [nI_clamp (show 0 < 2 ^ 31 by omega), nI_clamp (show g < 2 ^ 31 by omega), nI_clamp (show v < 2 ^ 31 by omega)]; exact if_pos ⟨c1, c2, c3⟩]
          exact ⟨_, rfl, hg.1.1, hT, RTr_0 hR v1, hM2⟩
        · rw [if_neg c3, if_pos i00, show guA tr (nI g) (nI 0) r = (-2, tr) from by unfold guA; rw [nI_clamp (show 0 < 2 ^ 31 by omega)]; exact if_neg (fun z => c3 z.2.2)]
          exact ⟨_, rfl, rfl, hM0⟩
      · rw [in_eq, Option.bind_some]
        by_cases c3 : 0 ≤ r ∧ r ≤ 3
        · rw [if_pos c3, if_neg i10]
          obtain ⟨v, v1, rfl⟩ := ncase (m := 3) (by decide) c3
          rw [show guA tr (nI g) (nI 1) (nI v) = (nI (tr 1 g), bx tr 1 g v) from by unfold guA; rw [nI_clamp (show 1 < 2 ^ 31 by omega), nI_clamp (show g < 2 ^ 31 by omega), nI_clamp (show v < 2 ^ 31 by omega)]; exact if_pos ⟨c1, c2, c3⟩]
          exact ⟨_, rfl, hg.2.1.1, hT, RTr_1 hR v1, hM2⟩
        · rw [if_neg c3, if_pos i00, show guA tr (nI g) (nI 1) r = (-2, tr) from by unfold guA; rw [nI_clamp (show 1 < 2 ^ 31 by omega)]; exact if_neg (fun z => c3 z.2.2)]
          exact ⟨_, rfl, rfl, hM0⟩
      · rw [in_eq, Option.bind_some]
        by_cases c3 : 0 ≤ r ∧ r ≤ 99
        · rw [if_pos c3, if_neg i10]
          obtain ⟨v, v1, rfl⟩ := ncase (m := 99) (by decide) c3
          rw [show guA tr (nI g) (nI 2) (nI v) = (nI (tr 2 g), bx tr 2 g v) from by unfold guA; rw [nI_clamp (show 2 < 2 ^ 31 by omega), nI_clamp (show g < 2 ^ 31 by omega), nI_clamp (show v < 2 ^ 31 by omega)]; exact if_pos ⟨c1, c2, c3⟩]
          exact ⟨_, rfl, hg.2.2.1, hT, RTr_2 hR v1, hM2⟩
        · rw [if_neg c3, if_pos i00, show guA tr (nI g) (nI 2) r = (-2, tr) from by unfold guA; rw [nI_clamp (show 2 < 2 ^ 31 by omega)]; exact if_neg (fun z => c3 z.2.2)]
          exact ⟨_, rfl, rfl, hM0⟩
    · rw [if_neg c2, if_pos i00, show guA tr p q r = (-2, tr) from if_neg (fun z => c2 z.2.1)]
      exact ⟨_, rfl, rfl, hM0⟩
  · rw [if_neg c1, if_pos i00, show guA tr p q r = (-2, tr) from if_neg (fun z => c1 z.1)]
    exact ⟨_, rfl, rfl, hM0⟩
theorem RSt_set {a : Nat → Int32} (h : RSt st a) {w v : Nat} (hw : w < 4) (hv : SB (ux st w v)) : RSt (ux st w v) (upd a w (nI v)) := by
  refine ⟨hv, fun k hk => ?_⟩
  by_cases c : k = w
  · subst c; rw [pk_us, ux_s]
  · rw [pk_un c, ux_o c]; exact h.2 k hk
theorem SB_0 {v : Nat} (h : SB st) (h1 : 1 ≤ v) (h2 : v ≤ 10) : SB (ux st 0 v) := by
  obtain ⟨s0, s1, s2, s3⟩ := h
  refine ⟨?_, ?_, ?_, ?_⟩
  · rw [ux_s]; omega
  · rw [ux_o (by omega)]; exact s1
  · rw [ux_o (by omega)]; exact s2
  · rw [ux_o (by omega)]; exact s3
theorem SB_1 {v : Nat} (h : SB st) (h1 : 1 ≤ v) (h2 : v ≤ 9) : SB (ux st 1 v) := by
  obtain ⟨s0, s1, s2, s3⟩ := h
  refine ⟨?_, ?_, ?_, ?_⟩
  · rw [ux_o (by omega)]; exact s0
  · rw [ux_s]; omega
  · rw [ux_o (by omega)]; exact s2
  · rw [ux_o (by omega)]; exact s3
theorem SB_2 {v : Nat} (h : SB st) (h1 : 1 ≤ v) (h2 : v ≤ 60) : SB (ux st 2 v) := by
  obtain ⟨s0, s1, s2, s3⟩ := h
  refine ⟨?_, ?_, ?_, ?_⟩
  · rw [ux_o (by omega)]; exact s0
  · rw [ux_o (by omega)]; exact s1
  · rw [ux_s]; omega
  · rw [ux_o (by omega)]; exact s3
theorem SB_3 {v : Nat} (h : SB st) (h1 : 0 ≤ v) (h2 : v ≤ 9) : SB (ux st 3 v) := by
  obtain ⟨s0, s1, s2, s3⟩ := h
  refine ⟨?_, ?_, ?_, ?_⟩
  · rw [ux_o (by omega)]; exact s0
  · rw [ux_o (by omega)]; exact s1
  · rw [ux_o (by omega)]; exact s2
  · rw [ux_s]; omega
def seA (st : Nat → Nat) (p q : Int32) : Int32 × (Nat → Nat) := if (0 ≤ p ∧ p ≤ 3) ∧ (stSL (Int32.toNatClampNeg p) ≤ q ∧ q ≤ stSM (Int32.toNatClampNeg p)) then (nI (st (Int32.toNatClampNeg p)), ux st (Int32.toNatClampNeg p) (Int32.toNatClampNeg q)) else (-2, st)
theorem set6 (hN : 20 < N) (hC : ClsT n β tr st t0_bytes t0_size t0_faultAt t0_known t0_bits t1_bytes t1_size t1_faultAt t1_known t2_bytes t2_size t2_faultAt t2_known tr0 tr1 tr2 settings h_inRow h_inFrontOf h_liftedFor h_takers h_takerCount h_laid h_judgedGuest h_liftedInAll g_many g_goesAt g_liftedForThese) (p q : Int32) : ∃ R, fX6_set N t0_bytes t0_size t0_faultAt t0_known t0_bits t1_bytes t1_size t1_faultAt t1_known t1_bits t2_bytes t2_size t2_faultAt t2_known t2_bits tr0 settings h_inRow h_inFrontOf h_liftedFor h_takers h_takerCount h_laid h_judgedGuest h_liftedInAll g_many g_goesAt g_liftedForThese p q = some R ∧ R.1 = (seA st p q).1 ∧ ClsT n β tr (seA st p q).2 t0_bytes t0_size R.2.1 R.2.2.1 R.2.2.2.1 t1_bytes t1_size R.2.2.2.2.1 R.2.2.2.2.2.1 t2_bytes t2_size R.2.2.2.2.2.2.2.1 R.2.2.2.2.2.2.2.2.1 tr0 tr1 tr2 R.2.2.2.2.2.2.2.2.2.2.1 R.2.2.2.2.2.2.2.2.2.2.2.1 R.2.2.2.2.2.2.2.2.2.2.2.2.1 R.2.2.2.2.2.2.2.2.2.2.2.2.2.1 R.2.2.2.2.2.2.2.2.2.2.2.2.2.2.1 R.2.2.2.2.2.2.2.2.2.2.2.2.2.2.2.1 R.2.2.2.2.2.2.2.2.2.2.2.2.2.2.2.2.1 R.2.2.2.2.2.2.2.2.2.2.2.2.2.2.2.2.2.1 R.2.2.2.2.2.2.2.2.2.2.2.2.2.2.2.2.2.2.1 R.2.2.2.2.2.2.2.2.2.2.2.2.2.2.2.2.2.2.2.1 R.2.2.2.2.2.2.2.2.2.2.2.2.2.2.2.2.2.2.2.2.1 R.2.2.2.2.2.2.2.2.2.2.2.2.2.2.2.2.2.2.2.2.2 := by
  have hC0 := hC
  obtain ⟨h0, h1, h2, hTr, hSt, -⟩ := hC
  unfold fX6_set
  rw [within_eq, Option.bind_some]
  by_cases c1 : 0 ≤ p ∧ p ≤ 3
  · rw [if_pos c1, if_neg i10]
    obtain ⟨w, w1, rfl⟩ := ncase (m := 3) (by decide) c1
    have hs0 := hSt.2 w (by omega)
    rw [if_pos (chk_nI (show w < 4 by omega) (by omega)), if_pos (chk_nI (show w < 4 by omega) (by omega)), if_pos (chk_nI (show w < 4 by omega) (by omega)), if_pos (chk_nI (show w < 4 by omega) (by omega)), nI_clamp (show w < 2 ^ 31 by omega), within_eq, Option.bind_some]
    by_cases c3 : stSL w ≤ q ∧ q ≤ stSM w
    · have key : ∀ v, q = nI v → SB (ux st w v) → v < 100 → ∃ R, (if (if stSL w ≤ q ∧ q ≤ stSM w then (1 : Int32) else 0) = 0 then some ((-2 : Int32), t0_faultAt, t0_known, t0_bits, t1_faultAt, t1_known, t1_bits, t2_faultAt, t2_known, t2_bits, settings, h_inRow, h_inFrontOf, h_liftedFor, h_takers, h_takerCount, h_laid, h_judgedGuest, h_liftedInAll, g_many, g_goesAt, g_liftedForThese) else (fX6_settle N t0_bytes t0_size t0_faultAt t0_known t0_bits t1_bytes t1_size t1_faultAt t1_known t1_bits t2_bytes t2_size t2_faultAt t2_known t2_bits tr0 (upd settings w q) h_inRow h_inFrontOf h_liftedFor h_takers h_takerCount h_laid h_judgedGuest h_liftedInAll g_many g_goesAt g_liftedForThese).bind (fun u11 => some ((settings w), u11.1, u11.2.1, u11.2.2.1, u11.2.2.2.1, u11.2.2.2.2.1, u11.2.2.2.2.2.1, u11.2.2.2.2.2.2.1, u11.2.2.2.2.2.2.2.1, u11.2.2.2.2.2.2.2.2.1, (upd settings w q), u11.2.2.2.2.2.2.2.2.2.1, u11.2.2.2.2.2.2.2.2.2.2.1, u11.2.2.2.2.2.2.2.2.2.2.2.1, u11.2.2.2.2.2.2.2.2.2.2.2.2.1, u11.2.2.2.2.2.2.2.2.2.2.2.2.2.1, u11.2.2.2.2.2.2.2.2.2.2.2.2.2.2.1, u11.2.2.2.2.2.2.2.2.2.2.2.2.2.2.2.1, u11.2.2.2.2.2.2.2.2.2.2.2.2.2.2.2.2.1, u11.2.2.2.2.2.2.2.2.2.2.2.2.2.2.2.2.2.1, u11.2.2.2.2.2.2.2.2.2.2.2.2.2.2.2.2.2.2.1, u11.2.2.2.2.2.2.2.2.2.2.2.2.2.2.2.2.2.2.2))) = some R ∧ R.1 = (seA st (nI w) q).1 ∧ ClsT n β tr (seA st (nI w) q).2 t0_bytes t0_size R.2.1 R.2.2.1 R.2.2.2.1 t1_bytes t1_size R.2.2.2.2.1 R.2.2.2.2.2.1 t2_bytes t2_size R.2.2.2.2.2.2.2.1 R.2.2.2.2.2.2.2.2.1 tr0 tr1 tr2 R.2.2.2.2.2.2.2.2.2.2.1 R.2.2.2.2.2.2.2.2.2.2.2.1 R.2.2.2.2.2.2.2.2.2.2.2.2.1 R.2.2.2.2.2.2.2.2.2.2.2.2.2.1 R.2.2.2.2.2.2.2.2.2.2.2.2.2.2.1 R.2.2.2.2.2.2.2.2.2.2.2.2.2.2.2.1 R.2.2.2.2.2.2.2.2.2.2.2.2.2.2.2.2.1 R.2.2.2.2.2.2.2.2.2.2.2.2.2.2.2.2.2.1 R.2.2.2.2.2.2.2.2.2.2.2.2.2.2.2.2.2.2.1 R.2.2.2.2.2.2.2.2.2.2.2.2.2.2.2.2.2.2.2.1 R.2.2.2.2.2.2.2.2.2.2.2.2.2.2.2.2.2.2.2.2.1 R.2.2.2.2.2.2.2.2.2.2.2.2.2.2.2.2.2.2.2.2.2 := by
        intro v hv hsb hv2
        subst hv
        obtain ⟨U, e1, e2⟩ := settleT (N := N) (n := n) (β := β) (tr := tr) (st := ux st w v) (t0_faultAt := t0_faultAt) (t0_known := t0_known) (t0_bits := t0_bits) (t1_faultAt := t1_faultAt) (t1_known := t1_known) (t1_bits := t1_bits) (t2_faultAt := t2_faultAt) (t2_known := t2_known) (t2_bits := t2_bits) (h_inRow := h_inRow) (h_inFrontOf := h_inFrontOf) (h_liftedFor := h_liftedFor) (h_takers := h_takers) (h_takerCount := h_takerCount) (h_laid := h_laid) (h_judgedGuest := h_judgedGuest) (h_liftedInAll := h_liftedInAll) (g_many := g_many) (g_goesAt := g_goesAt) (g_liftedForThese := g_liftedForThese) hN h0 h1 h2 hTr (RSt_set hSt (by omega) hsb)
        rw [if_pos c3, if_neg i10, e1, Option.bind_some, show seA st (nI w) (nI v) = (nI (st w), ux st w v) from by unfold seA; rw [nI_clamp (show w < 2 ^ 31 by omega), nI_clamp (show v < 2 ^ 31 by omega), if_pos ⟨c1, c3⟩]]
        exact ⟨_, rfl, hs0, e2⟩
      rcases (show w = 0 ∨ w = 1 ∨ w = 2 ∨ w = 3 by omega) with e | e | e | e <;> subst e
      · obtain ⟨v, z0, z1, z2⟩ := ncase1 (x := q) (m := 10) (by decide) c3
        exact key v z2 (SB_0 hSt.1 z0 z1) (by omega)
      · obtain ⟨v, z0, z1, z2⟩ := ncase1 (x := q) (m := 9) (by decide) c3
        exact key v z2 (SB_1 hSt.1 z0 z1) (by omega)
      · obtain ⟨v, z0, z1, z2⟩ := ncase1 (x := q) (m := 60) (by decide) c3
        exact key v z2 (SB_2 hSt.1 z0 z1) (by omega)
      · obtain ⟨v, z1, z2⟩ := ncase (x := q) (m := 9) (by decide) c3
        exact key v z2 (SB_3 hSt.1 (by omega) z1) (by omega)
    · rw [if_neg c3, if_pos i00, show seA st (nI w) q = (-2, st) from by unfold seA; rw [nI_clamp (show w < 2 ^ 31 by omega)]; exact if_neg (fun z => c3 z.2)]
      exact ⟨_, rfl, rfl, hC0⟩
  · rw [if_neg c1, if_pos i00, show seA st p q = (-2, st) from if_neg (fun z => c1 z.1)]
    exact ⟨_, rfl, rfl, hC0⟩
theorem set7 (hM : ModT n β tr st typed texts rowOf looks minutes deep room look lift) (p q : Int32) : ∃ S, fX7_set deep room look lift p q = some S ∧ S.1 = (seA st p q).1 ∧ ModT n β tr (seA st p q).2 typed texts rowOf looks minutes S.2.1 S.2.2.1 S.2.2.2.1 S.2.2.2.2 := by
  have hM0 := hM
  obtain ⟨hT, hR, hsb, hd1, hd2, hd3, hd4⟩ := hM
  by_cases c1 : 0 ≤ p ∧ p ≤ 3
  · obtain ⟨w, w1, rfl⟩ := ncase (m := 3) (by decide) c1
    unfold fX7_set bX7_set_21 bX7_set_42 bX7_set_91 bX7_set_106 bX7_set_123 bX7_set_140 bX7_set_157
    rw [in_eq, Option.bind_some, Option.bind_some, Option.bind_some, if_pos c1, if_neg i10, if_neg i10, if_neg i10]
    rcases (show w = 0 ∨ w = 1 ∨ w = 2 ∨ w = 3 by omega) with e | e | e | e <;> subst e <;> simp only [dI00, dI01, dI02, dI03, dI10, dI11, dI12, dI13, dI20, dI21, dI22, dI23, dI30, dI31, dI32, dI33, if_true, if_false]
    · rw [in_eq, Option.bind_some]
      by_cases c3 : 1 ≤ q ∧ q ≤ 10
      · rw [if_pos c3, if_neg i10]
        obtain ⟨v, v0, v1, rfl⟩ : ∃ v, 1 ≤ v ∧ v ≤ 10 ∧ q = nI v := by
          obtain ⟨v, z0, z1, z2⟩ := ncase1 (m := 10) (by decide) c3; exact ⟨v, z0, z1, z2⟩
        rw [show seA st (nI 0) (nI v) = (nI (st 0), ux st 0 v) from by unfold seA; rw [nI_clamp (show 0 < 2 ^ 31 by omega), nI_clamp (show v < 2 ^ 31 by omega)]; exact if_pos ⟨c1, c3⟩]
        exact ⟨_, rfl, hd1, hT, hR, SB_0 hsb v0 v1, rfl, hd2, hd3, hd4⟩
      · rw [if_neg c3, if_pos i00, show seA st (nI 0) q = (-2, st) from by unfold seA; rw [nI_clamp (show 0 < 2 ^ 31 by omega)]; exact if_neg (fun z => c3 z.2)]
        exact ⟨_, rfl, rfl, hM0⟩
    · rw [in_eq, Option.bind_some]
      by_cases c3 : 1 ≤ q ∧ q ≤ 9
      · rw [if_pos c3, if_neg i10]
        obtain ⟨v, v0, v1, rfl⟩ : ∃ v, 1 ≤ v ∧ v ≤ 9 ∧ q = nI v := by
          obtain ⟨v, z0, z1, z2⟩ := ncase1 (m := 9) (by decide) c3; exact ⟨v, z0, z1, z2⟩
        rw [show seA st (nI 1) (nI v) = (nI (st 1), ux st 1 v) from by unfold seA; rw [nI_clamp (show 1 < 2 ^ 31 by omega), nI_clamp (show v < 2 ^ 31 by omega)]; exact if_pos ⟨c1, c3⟩]
        exact ⟨_, rfl, hd2, hT, hR, SB_1 hsb v0 v1, hd1, rfl, hd3, hd4⟩
      · rw [if_neg c3, if_pos i00, show seA st (nI 1) q = (-2, st) from by unfold seA; rw [nI_clamp (show 1 < 2 ^ 31 by omega)]; exact if_neg (fun z => c3 z.2)]
        exact ⟨_, rfl, rfl, hM0⟩
    · rw [in_eq, Option.bind_some]
      by_cases c3 : 1 ≤ q ∧ q ≤ 60
      · rw [if_pos c3, if_neg i10]
        obtain ⟨v, v0, v1, rfl⟩ : ∃ v, 1 ≤ v ∧ v ≤ 60 ∧ q = nI v := by
          obtain ⟨v, z0, z1, z2⟩ := ncase1 (m := 60) (by decide) c3; exact ⟨v, z0, z1, z2⟩
        rw [show seA st (nI 2) (nI v) = (nI (st 2), ux st 2 v) from by unfold seA; rw [nI_clamp (show 2 < 2 ^ 31 by omega), nI_clamp (show v < 2 ^ 31 by omega)]; exact if_pos ⟨c1, c3⟩]
        exact ⟨_, rfl, hd3, hT, hR, SB_2 hsb v0 v1, hd1, hd2, rfl, hd4⟩
      · rw [if_neg c3, if_pos i00, show seA st (nI 2) q = (-2, st) from by unfold seA; rw [nI_clamp (show 2 < 2 ^ 31 by omega)]; exact if_neg (fun z => c3 z.2)]
        exact ⟨_, rfl, rfl, hM0⟩
    · rw [in_eq, Option.bind_some]
      by_cases c3 : 0 ≤ q ∧ q ≤ 9
      · rw [if_pos c3, if_neg i10]
        obtain ⟨v, v0, v1, rfl⟩ : ∃ v, 0 ≤ v ∧ v ≤ 9 ∧ q = nI v := by
          obtain ⟨v, z1, z2⟩ := ncase (m := 9) (by decide) c3; exact ⟨v, by omega, z1, z2⟩
        rw [show seA st (nI 3) (nI v) = (nI (st 3), ux st 3 v) from by unfold seA; rw [nI_clamp (show 3 < 2 ^ 31 by omega), nI_clamp (show v < 2 ^ 31 by omega)]; exact if_pos ⟨c1, c3⟩]
        exact ⟨_, rfl, hd4, hT, hR, SB_3 hsb v0 v1, hd1, hd2, hd3, rfl⟩
      · rw [if_neg c3, if_pos i00, show seA st (nI 3) q = (-2, st) from by unfold seA; rw [nI_clamp (show 3 < 2 ^ 31 by omega)]; exact if_neg (fun z => c3 z.2)]
        exact ⟨_, rfl, rfl, hM0⟩
  · have e : fX7_set deep room look lift p q = some (-2, deep, room, look, lift) := by
      unfold fX7_set bX7_set_21
      rw [in_eq, Option.bind_some, if_neg c1, if_pos i00, Option.bind_some, Option.bind_some, if_pos i00, if_pos i00]
      split
      · rfl
      · split <;> rfl
    rw [e, show seA st p q = (-2, st) from if_neg (fun z => c1 z.1)]
    exact ⟨_, rfl, rfl, hM0⟩
end MU

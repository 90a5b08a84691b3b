/-! ===== halves for ahead, forget, wrong, digest ===== -/
def ahA (h : Nat) (ea eb : Nat → Nat) (p q : Int32) : Int32 × Nat × (Nat → Nat) × (Nat → Nat) := if (0 ≤ p ∧ p ≤ 9) ∧ (0 ≤ q ∧ q ≤ 9) ∧ p ≠ q then (if h = 8 then (-4, h, ea, eb) else (nI (h + 1), h + 1, ux ea h (Int32.toNatClampNeg p), ux eb h (Int32.toNatClampNeg q))) else (-2, h, ea, eb)
theorem ahead6 {N h : Nat} {ea eb : Nat → Nat} {many named : Int32} {ah : Nat → Int32} (hN : 20 < N) (hC : ToC h ea eb many ah named) (p q : Int32) : ∃ R, fX6_ahead N many ah named p q = some R ∧ R.1 = (ahA h ea eb p q).1 ∧ ToC (ahA h ea eb p q).2.1 (ahA h ea eb p q).2.2.1 (ahA h ea eb p q).2.2.2 R.2.1 R.2.2.1 R.2.2.2 := by
  unfold fX6_ahead
  have hC0 := hC
  obtain ⟨hh, hk, r1, r2, r3⟩ := hC
  rw [isGuest6_eq, Option.bind_some]
  by_cases c1 : 0 ≤ p ∧ p ≤ 9
  · rw [if_pos c1, if_neg i10, isGuest6_eq, Option.bind_some]
    by_cases c2 : 0 ≤ q ∧ q ≤ 9
    · rw [if_pos c2, if_neg i10]
      by_cases c3 : p = q
      · rw [if_pos c3, show ahA h ea eb p q = (-2, h, ea, eb) from if_neg (fun z => z.2.2 c3)]
        exact ⟨_, rfl, rfl, hC0⟩
      · rw [if_neg c3]
        obtain ⟨a, a1, rfl⟩ := ncase (m := 9) (by decide) c1
        obtain ⟨b, b1, rfl⟩ := ncase (m := 9) (by decide) c2
        have hab : a ≠ b := fun z => c3 (by rw [z])
        by_cases c4 : h = 8
        · subst c4
          rw [if_neg (by rw [r1]; decide), show ahA 8 ea eb (nI a) (nI b) = (-4, 8, ea, eb) from (if_pos ⟨c1, c2, c3⟩).trans (if_pos rfl)]
          exact ⟨_, rfl, rfl, hC0⟩
        · have hR := RO_congr (ea' := ux ea h a) (eb' := ux eb h b) (fun i hi => ⟨(ux_n hi).symm, (ux_n hi).symm⟩) (⟨r1, r2, r3⟩ : RO h ea eb many ah named)
          obtain ⟨ah', e1, e2⟩ := tell_eq (N := N) (ea := ux ea h a) (eb := ux eb h b) hN hR (show a < 10 by omega) (show b < 10 by omega) (ux_s _ _ _) (ux_s _ _ _)
          have ok := OK_more (by omega) hk (show a < 10 by omega) (show b < 10 by omega) hab
          rw [if_pos (by rw [r1, li8, nI_ltI (by omega) (by omega)]; omega), e1, Option.bind_some, show ahA h ea eb (nI a) (nI b) = (nI (h + 1), h + 1, ux ea h a, ux eb h b) from by unfold ahA; rw [nI_clamp (show a < 2 ^ 31 by omega), nI_clamp (show b < 2 ^ 31 by omega)]; exact (if_pos ⟨c1, c2, c3⟩).trans (if_neg c4)]
          exact ⟨_, rfl, rfl, show h + 1 ≤ 8 by omega, ok, e2⟩
    · rw [if_neg c2, if_pos i00, show ahA h ea eb p q = (-2, h, ea, eb) from if_neg (fun z => c2 z.2.1)]
      exact ⟨_, rfl, rfl, hC0⟩
  · rw [if_neg c1, if_pos i00, show ahA h ea eb p q = (-2, h, ea, eb) from if_neg (fun z => c1 z.1)]
    exact ⟨_, rfl, rfl, hC0⟩
theorem ahead7 {h : Nat} {ea eb : Nat → Nat} {aheads : Int32} {one oth : Nat → Int32} (hM : ToM h ea eb aheads one oth) (p q : Int32) : ∃ S, fX7_ahead aheads one oth p q = some S ∧ S.1 = (ahA h ea eb p q).1 ∧ ToM (ahA h ea eb p q).2.1 (ahA h ea eb p q).2.2.1 (ahA h ea eb p q).2.2.2 S.2.1 S.2.2.1 S.2.2.2 := by
  unfold fX7_ahead
  have hM0 := hM
  obtain ⟨hh, hk, m1, m2⟩ := hM
  rw [isGuest7_eq, Option.bind_some]
  by_cases c1 : 0 ≤ p ∧ p ≤ 9
  · rw [if_pos c1, if_neg i10, isGuest7_eq, Option.bind_some]
    by_cases c2 : 0 ≤ q ∧ q ≤ 9
    · rw [if_pos c2, if_neg i10]
      by_cases c3 : p = q
      · rw [if_pos c3, show ahA h ea eb p q = (-2, h, ea, eb) from if_neg (fun z => z.2.2 c3)]
        exact ⟨_, rfl, rfl, hM0⟩
      · rw [if_neg c3]
        obtain ⟨a, a1, rfl⟩ := ncase (m := 9) (by decide) c1
        obtain ⟨b, b1, rfl⟩ := ncase (m := 9) (by decide) c2
        have hab : a ≠ b := fun z => c3 (by rw [z])
        by_cases c4 : h = 8
        · subst c4
          rw [if_pos (by rw [m1]; rfl), show ahA 8 ea eb (nI a) (nI b) = (-4, 8, ea, eb) from (if_pos ⟨c1, c2, c3⟩).trans (if_pos rfl)]
          exact ⟨_, rfl, rfl, hM0⟩
        · have ok := OK_more (by omega) hk (show a < 10 by omega) (show b < 10 by omega) hab
          rw [if_neg (by rw [m1, li8, nI_eq (by omega) (by omega)]; exact c4), m1, if_pos (chk_nI (by omega) (by omega)), if_pos (chk_nI (by omega) (by omega)), nI_1, nI_clamp (show h < 2 ^ 31 by omega), show ahA h ea eb (nI a) (nI b) = (nI (h + 1), h + 1, ux ea h a, ux eb h b) from by unfold ahA; rw [nI_clamp (show a < 2 ^ 31 by omega), nI_clamp (show b < 2 ^ 31 by omega)]; exact (if_pos ⟨c1, c2, c3⟩).trans (if_neg c4)]
          refine ⟨_, rfl, rfl, show h + 1 ≤ 8 by omega, ok, rfl, fun i hi => ?_⟩
          have hi : i < h + 1 := hi
          simp only
          unfold upd
          by_cases c : i = h
          · rw [if_pos c, if_pos c, c, ux_s, ux_s]; exact ⟨rfl, rfl⟩
          · rw [if_neg c, if_neg c, ux_n (by omega), ux_n (by omega)]; exact m2 i (by omega)
    · rw [if_neg c2, if_pos i00, show ahA h ea eb p q = (-2, h, ea, eb) from if_neg (fun z => c2 z.2.1)]
      exact ⟨_, rfl, rfl, hM0⟩
  · rw [if_neg c1, if_pos i00, show ahA h ea eb p q = (-2, h, ea, eb) from if_neg (fun z => c1 z.1)]
    exact ⟨_, rfl, rfl, hM0⟩
theorem forget6 {N h : Nat} {ea eb : Nat → Nat} {many named : Int32} {ah : Nat → Int32} (hN : 20 < N) (hC : ToC h ea eb many ah named) : ∃ R, fX6_forget N many ah named = some R ∧ R.1 = nI h ∧ ToC 0 ea eb R.2.1 R.2.2.1 R.2.2.2 := by
  unfold fX6_forget
  obtain ⟨ah', e1, e2⟩ := clear_eq (N := N) (ea := ea) (eb := eb) (many := many) (named := named) (ah := ah) hN
  rw [e1, Option.bind_some]
  exact ⟨_, rfl, hC.2.2.1, by omega, ⟨by omega, fun i hi => by omega⟩, e2⟩
theorem forget7 {h : Nat} {ea eb : Nat → Nat} {aheads : Int32} {one oth : Nat → Int32} (hM : ToM h ea eb aheads one oth) : ∃ S, fX7_forget aheads = some S ∧ S.1 = nI h ∧ ToM 0 ea eb S.2 one oth := by
  unfold fX7_forget
  exact ⟨_, rfl, hM.2.2.1, by omega, ⟨by omega, fun i hi => by omega⟩, rfl, fun i hi => by omega⟩
-- wrong: the answer by the abstract text
def aWr (N : Nat) (n : Nat → Nat) (β : Nat → Nat → Nat) (p : Int32) : Int32 := (fX6_wrong N (fun k => nI (β 2 k)) (nI (tW n β)) p).getD 0
theorem TX_can {n : Nat → Nat} {β : Nat → Nat → Nat} {t : Nat} {b : Nat → Int32} {z : Int32} (h : TX n β t b z) : TX n β t (fun k => nI (β t k)) (nI (n t)) := ⟨rfl, h.2.1, fun k hk => ⟨rfl, (h.2.2 k hk).2⟩⟩
theorem TX_of {n : Nat → Nat} {β : Nat → Nat → Nat} {t : Nat} {typed texts : Nat → Int32} (ht : t < 3) (h : TM n β typed texts) : TX n β t (fun k => nI (β t k)) (nI (n t)) := ⟨rfl, (h t ht).2.1, fun k hk => ⟨rfl, ((h t ht).2.2 k hk).2⟩⟩
theorem TM_can {n : Nat → Nat} {β : Nat → Nat → Nat} {b0 b1 b2 : Nat → Int32} {z0 z1 z2 : Int32} (h0 : TX n β 0 b0 z0) (h1 : TX n β 1 b1 z1) (h2 : TX n β 2 b2 z2) : TM n β (fun t => nI (n t)) (fun x => nI (β (x / 10) (x % 10))) := by
  intro t ht
  have hb : n t ≤ 10 ∧ ∀ k, k < n t → β t k < 256 := by
    rcases (show t = 0 ∨ t = 1 ∨ t = 2 by omega) with e | e | e <;> subst e
    · exact ⟨h0.2.1, fun k hk => (h0.2.2 k hk).2⟩
    · exact ⟨h1.2.1, fun k hk => (h1.2.2 k hk).2⟩
    · exact ⟨h2.2.1, fun k hk => (h2.2.2 k hk).2⟩
  refine ⟨rfl, hb.1, fun k hk => ⟨?_, hb.2 k hk⟩⟩
  show nI (β ((10 * t + k) / 10) ((10 * t + k) % 10)) = nI (β t k)
  rw [show (10 * t + k) / 10 = t by have := hb.1; omega, show (10 * t + k) % 10 = k by have := hb.1; omega]
theorem wr6 {N : Nat} {n : Nat → Nat} {β : Nat → Nat → Nat} {b0 b1 b2 : Nat → Int32} {z0 z1 z2 : Int32} (hN : 20 < N) (h0 : TX n β 0 b0 z0) (h1 : TX n β 1 b1 z1) (h2 : TX n β 2 b2 z2) (p : Int32) : fX6_wrong N b2 (nI (tW n β)) p = some (aWr N n β p) := by
  have hT := TM_can h0 h1 h2
  obtain ⟨a, e1, R, r1, r2⟩ := wrong67 (N := N) (comes := 0) (coming := fun _ => 0) (came := 0) (goes := 0) (going := fun _ => 0) (wears := 0) (worn := fun _ => 0) hN hT h2 p
  obtain ⟨a', e1', R', r1', r2'⟩ := wrong67 (N := N) (comes := 0) (coming := fun _ => 0) (came := 0) (goes := 0) (going := fun _ => 0) (wears := 0) (worn := fun _ => 0) hN hT (TX_can h2) p
  rw [r1] at r1'
  have hR := Option.some.inj r1'
  subst hR
  rw [e1]
  unfold aWr
  rw [e1', ← r2, ← r2']
  rfl
theorem wr7 {N : Nat} {n : Nat → Nat} {β : Nat → Nat → Nat} {typed texts coming going worn : Nat → Int32} {comes came goes wears : Int32} (hN : 20 < N) (hT : TM n β typed texts) (p : Int32) : ∃ R, fX7_wrong N typed texts comes coming came goes going wears worn p = some R ∧ R.1 = aWr N n β p := by
  obtain ⟨a, e1, R, r1, r2⟩ := wrong67 (N := N) (comes := comes) (coming := coming) (came := came) (goes := goes) (going := going) (wears := wears) (worn := worn) hN hT (TX_of (by omega) hT) p
  refine ⟨R, r1, ?_⟩
  unfold aWr
  rw [e1, r2]
  rfl
theorem digest6 {N : Nat} {n : Nat → Nat} {β tr : Nat → Nat → Nat} {st : Nat → Nat} {h : Nat} {ea eb : Nat → Nat} {fd : Int32} {t0_bytes t1_bytes t2_bytes tr0 tr1 tr2 settings h_inRow h_inFrontOf h_liftedFor h_takers g_goesAt g_liftedForThese : Nat → Int32} {t0_size t0_faultAt t0_known t0_bits t1_size t1_faultAt t1_known t2_size t2_faultAt t2_known h_takerCount h_laid h_judgedGuest h_liftedInAll g_many t1_bits t2_bits : Int32} {cr_outs g_frontGoesAt g_inRow g_leastRowAt g_longestFrom g_proof g_rowAt o_aheadOf o_ways : Nat → Int32} {cr_entered cr_room cr_latestEntry g_leastLifted o_many o_named : Int32} (hN : 2200 < N) (hC : ClsT n β tr st t0_bytes t0_size t0_faultAt t0_known t0_bits t1_bytes t1_size t1_faultAt t1_known t2_bytes t2_size t2_faultAt t2_known tr0 tr1 tr2 settings h_inRow h_inFrontOf h_liftedFor h_takers h_takerCount h_laid h_judgedGuest h_liftedInAll g_many g_goesAt g_liftedForThese) (hO : ToC h ea eb o_many o_aheadOf o_named) : ∃ R, fX6_digest N t0_bytes t0_faultAt t0_known t0_bits t1_faultAt t1_known t2_bytes t2_faultAt t2_known tr1 tr2 settings h_inRow h_inFrontOf h_liftedFor h_takers h_takerCount h_laid h_judgedGuest h_liftedInAll cr_outs cr_entered cr_room cr_latestEntry g_many g_goesAt g_liftedForThese g_rowAt g_leastRowAt g_proof g_inRow g_frontGoesAt g_longestFrom g_leastLifted o_many o_aheadOf o_named o_ways fd = some R ∧ R.1 = dD14 n β tr st h ea eb fd (aWr N n β) := by
  obtain ⟨h0, h1, h2, hTr, hSt, ⟨rfl, rfl, rfl, rfl, rfl, rfl, rfl⟩, ⟨hir, hfo, hlf, htk, rfl, rfl, rfl, rfl⟩, hG⟩ := hC
  have hm : o_many = nI h := hO.2.2.1
  subst hm
  have hw : wrV N t2_bytes (nI (tW n β)) = aWr N n β := by
    funext p
    unfold wrV
    rw [wr6 (by omega) h0 h1 h2 p]
    rfl
  have hw2 : ∀ p, fX6_wrong N t2_bytes (nI (tW n β)) p = some (wrV N t2_bytes (nI (tW n β)) p) := fun p => by rw [hw]; exact wr6 (by omega) h0 h1 h2 p
  rw [← hw]
  unfold fX6_digest
  refine bO (digHall (by omega) hir hSt) (fun R1 a1 => ?_)
  subst a1
  refine bO (digGuests hN h0.2.1 h1.2.1 h0 hG hTr hSt hlf htk hw2) (fun R2 a2 => ?_)
  rw [a2]
  refine bO (digLayings hN h0.2.1 h1.2.1 h2.2.1 h0 h2 hG hTr hSt hlf htk hw2) (fun R3 a3 => ?_)
  rw [a3]
  refine bO (digOdds hN h0.2.1 h1.2.1 hTr hfo htk (tc_le_L (dg_g h1.2.1)) hO _) (fun R4 a4 => ?_)
  exact ⟨_, rfl, a4⟩

/-! ===== sheets (printed by wip/gen/gensh.py) ===== -/
def lx (lo : Nat → Bool) (s : Nat) (b : Bool) : Nat → Bool := fun x => if x = s then b else lo x
def ix (it : Nat → Nat → Int32) (s : Nat) (f : Nat → Int32) : Nat → Nat → Int32 := fun x => if x = s then f else it x
theorem lx_s (lo : Nat → Bool) (s : Nat) (b : Bool) : lx lo s b s = b := if_pos rfl
theorem lx_o {lo : Nat → Bool} {s x : Nat} {b : Bool} (h : x ≠ s) : lx lo s b x = lo x := if_neg h
theorem ix_s (it : Nat → Nat → Int32) (s : Nat) (f : Nat → Int32) : ix it s f s = f := if_pos rfl
theorem ix_o {it : Nat → Nat → Int32} {s x : Nat} {f : Nat → Int32} (h : x ≠ s) : ix it s f x = it x := if_neg h
def bI (b : Bool) : Int32 := if b then 1 else 0
theorem up_eq {a b : Nat → Int32} {j i : Nat} {v : Int32} (h : a i = b i) : upd a j v i = upd b j v i := by
  unfold upd
  by_cases c : i = j
  · rw [if_pos c, if_pos c]
  · rw [if_neg c, if_neg c]; exact h
def SBd (fo si : Nat → Nat) : Prop := ∀ s, s < 4 → fo s ≤ 2 ∧ si s ≤ 48
def SC1 (lo : Nat → Bool) (fo si : Nat → Nat) (it : Nat → Nat → Int32) (s : Nat) (items : Nat → Int32) (lost form size : Int32) : Prop := lost = bI (lo s) ∧ form = nI (fo s) ∧ size = nI (si s) ∧ ∀ i, i < 48 → items i = it s i
def ShC (lo : Nat → Bool) (fo si : Nat → Nat) (it : Nat → Nat → Int32) (s0_items : Nat → Int32) (s0_lost s0_form s0_size : Int32) (s1_items : Nat → Int32) (s1_lost s1_form s1_size : Int32) (s2_items : Nat → Int32) (s2_lost s2_form s2_size : Int32) (s3_items : Nat → Int32) (s3_lost s3_form s3_size : Int32) : Prop := SBd fo si ∧ SC1 lo fo si it 0 s0_items s0_lost s0_form s0_size ∧ SC1 lo fo si it 1 s1_items s1_lost s1_form s1_size ∧ SC1 lo fo si it 2 s2_items s2_lost s2_form s2_size ∧ SC1 lo fo si it 3 s3_items s3_lost s3_form s3_size
def ShM (lo : Nat → Bool) (fo si : Nat → Nat) (it : Nat → Nat → Int32) (isThere forms sizes items : Nat → Int32) : Prop := SBd fo si ∧ ∀ s, s < 4 → isThere s = bI (!(lo s)) ∧ forms s = nI (fo s) ∧ sizes s = nI (si s) ∧ ∀ i, i < 48 → items (48 * s + i) = it s i
theorem isSheet6_eq (x : Int32) : fX6_isSheet x = some (if 0 ≤ x ∧ x ≤ 3 then 1 else 0) := by
  unfold fX6_isSheet
  rw [within_eq, Option.bind_some, if_pos (b01 _)]
theorem isSheet7_eq (x : Int32) : fX7_isSheet x = some (if 0 ≤ x ∧ x ≤ 3 then 1 else 0) := by
  unfold fX7_isSheet
  rw [in_eq, Option.bind_some, if_pos (b01 _)]
theorem isForm6_eq (x : Int32) : fX6_isForm x = some (if 0 ≤ x ∧ x ≤ 2 then 1 else 0) := by
  unfold fX6_isForm
  rw [within_eq, Option.bind_some, if_pos (b01 _)]
section SH
variable {N : Nat} {lo : Nat → Bool} {fo si : Nat → Nat} {it : Nat → Nat → Int32} {fd : Int32} {s0_items s1_items s2_items s3_items : Nat → Int32} {s0_lost s0_form s0_size s1_lost s1_form s1_size s2_lost s2_form s2_size s3_lost s3_form s3_size : Int32} {isThere forms sizes items moved : Nat → Int32}
theorem SC1_oth {s x : Nat} {f : Nat → Int32} {a b : Nat} {bb : Bool} {i : Nat → Int32} {l g z : Int32} (hx : x ≠ s) (h : SC1 lo fo si it x i l g z) : SC1 (lx lo s bb) (ux fo s a) (ux si s b) (ix it s f) x i l g z := by
  unfold SC1
  rw [lx_o hx, ux_o hx, ux_o hx, ix_o hx]; exact h
theorem SC1_lx {s x : Nat} {bb : Bool} {i : Nat → Int32} {l g z : Int32} (hx : x ≠ s) (h : SC1 lo fo si it x i l g z) : SC1 (lx lo s bb) fo si it x i l g z := by
  unfold SC1
  rw [lx_o hx]; exact h
theorem SC1_ix {s x : Nat} {f : Nat → Int32} {i : Nat → Int32} {l g z : Int32} (hx : x ≠ s) (h : SC1 lo fo si it x i l g z) : SC1 lo fo si (ix it s f) x i l g z := by
  unfold SC1
  rw [ix_o hx]; exact h
theorem renew_eq {i : Nat → Int32} {a b c : Int32} (hN : 100 < N) (f z : Int32) : ∃ i' : Nat → Int32, fX3_renew N i a b c f z = some (i', 0, f, z) ∧ ∀ k, k < 48 → i' k = 0 := by
  unfold fX3_renew
  obtain ⟨w, hw, e⟩ := lp_for (b := bX3_renew_17 N f z 0 f z) 48 (fun k s => ∃ i' : Nat → Int32, s = (nI k, i') ∧ ∀ j, j < k → i' j = 0) (fun w => ∃ i' : Nat → Int32, w = some (i', 0, f, z) ∧ ∀ k, k < 48 → i' k = 0)
    (fun k s hk hp => by
      obtain ⟨i', rfl, p1⟩ := hp
      left
      refine ⟨_, ⟨upd i' k 0, rfl, fun j hj => ?_⟩, fun κ => ?_⟩
      · unfold upd
        by_cases c : j = k
        · rw [if_pos c]
        · rw [if_neg c]; exact p1 j (by omega)
      · unfold bX3_renew_17
        simp only
        rw [if_neg (by rw [li48, nI_leI (by omega) (by omega)]; omega), if_pos (chk_nI hk (by omega)), nI_clamp (by omega), nI_1])
    (fun s hp => by
      obtain ⟨i', rfl, p1⟩ := hp
      refine ⟨_, ⟨i', rfl, p1⟩, fun κ => ?_⟩
      unfold bX3_renew_17
      simp only
      rw [if_pos (by rw [li48, nI_leI (by omega) (by omega)]; omega)])
    (k := 0) (s := (0, i)) (N := N) (by omega) ⟨i, rfl, fun j hj => by omega⟩ (by omega)
  obtain ⟨i', a1, a2⟩ := hw
  exact ⟨i', by rw [e, a1], a2⟩
def shA (lo : Nat → Bool) (fo si : Nat → Nat) (it : Nat → Nat → Int32) (fd p q r : Int32) : Int32 × (Nat → Bool) × (Nat → Nat) × (Nat → Nat) × (Nat → Nat → Int32) × Int32 := if (0 ≤ p ∧ p ≤ 3) ∧ (0 ≤ q ∧ q ≤ 2) ∧ r ≤ 48 then (if 0 ≤ r then (r, lx lo (Int32.toNatClampNeg p) false, ux fo (Int32.toNatClampNeg p) (Int32.toNatClampNeg q), ux si (Int32.toNatClampNeg p) (Int32.toNatClampNeg r), ix it (Int32.toNatClampNeg p) (fun _ => 0), fd) else ((-10 : Int32) - 5, lo, fo, si, it, 5)) else (-2, lo, fo, si, it, fd)
theorem SBd_set {s a b : Nat} (h : SBd fo si) (ha : a ≤ 2) (hb : b ≤ 48) : SBd (ux fo s a) (ux si s b) := by
  intro x hx
  by_cases c : x = s
  · subst c; rw [ux_s, ux_s]; exact ⟨ha, hb⟩
  · rw [ux_o c, ux_o c]; exact h x hx
theorem sheet6 (hN : 100 < N) (hC : ShC lo fo si it s0_items s0_lost s0_form s0_size s1_items s1_lost s1_form s1_size s2_items s2_lost s2_form s2_size s3_items s3_lost s3_form s3_size) (p q r : Int32) : ∃ R, fX6_sheet N s0_items s0_lost s0_form s0_size s1_items s1_lost s1_form s1_size s2_items s2_lost s2_form s2_size s3_items s3_lost s3_form s3_size fd p q r = some R ∧ R.1 = (shA lo fo si it fd p q r).1 ∧ ShC (shA lo fo si it fd p q r).2.1 (shA lo fo si it fd p q r).2.2.1 (shA lo fo si it fd p q r).2.2.2.1 (shA lo fo si it fd p q r).2.2.2.2.1 R.2.1 R.2.2.1 R.2.2.2.1 R.2.2.2.2.1 R.2.2.2.2.2.1 R.2.2.2.2.2.2.1 R.2.2.2.2.2.2.2.1 R.2.2.2.2.2.2.2.2.1 R.2.2.2.2.2.2.2.2.2.1 R.2.2.2.2.2.2.2.2.2.2.1 R.2.2.2.2.2.2.2.2.2.2.2.1 R.2.2.2.2.2.2.2.2.2.2.2.2.1 R.2.2.2.2.2.2.2.2.2.2.2.2.2.1 R.2.2.2.2.2.2.2.2.2.2.2.2.2.2.1 R.2.2.2.2.2.2.2.2.2.2.2.2.2.2.2.1 R.2.2.2.2.2.2.2.2.2.2.2.2.2.2.2.2.1 ∧ R.2.2.2.2.2.2.2.2.2.2.2.2.2.2.2.2.2 = (shA lo fo si it fd p q r).2.2.2.2.2 := by
  have hC0 := hC
  obtain ⟨hB, h0, h1, h2, h3⟩ := hC
  unfold fX6_sheet
  rw [isSheet6_eq, Option.bind_some]
  by_cases c1 : 0 ≤ p ∧ p ≤ 3
  · rw [if_pos c1, if_neg i10, isForm6_eq, Option.bind_some]
    by_cases c2 : 0 ≤ q ∧ q ≤ 2
    · rw [if_pos c2, if_neg i10]
      by_cases c3 : r ≤ 48
      · rw [if_pos c3]
        by_cases c4 : 0 ≤ r
        · rw [if_pos c4]
          obtain ⟨s, s1, rfl⟩ := ncase (m := 3) (by decide) c1
          obtain ⟨f, f1, rfl⟩ := ncase (m := 2) (by decide) c2
          obtain ⟨z, z1, rfl⟩ := ncase (m := 48) (by decide) ⟨c4, c3⟩
          rw [show shA lo fo si it fd (nI s) (nI f) (nI z) = (nI z, lx lo s false, ux fo s f, ux si s z, ix it s (fun _ => 0), fd) from by unfold shA; rw [if_pos ⟨c1, c2, c3⟩, if_pos c4, nI_clamp (show s < 2 ^ 31 by omega), nI_clamp (show f < 2 ^ 31 by omega), nI_clamp (show z < 2 ^ 31 by omega)]]
          rcases (show s = 0 ∨ s = 1 ∨ s = 2 ∨ s = 3 by omega) with e | e | e | e <;> subst e <;> simp only [dI00, dI01, dI02, dI03, dI10, dI11, dI12, dI13, dI20, dI21, dI22, dI23, dI30, dI31, dI32, dI33, if_true, if_false]
          · obtain ⟨i', e1, e2⟩ := renew_eq (N := N) (i := s0_items) (a := s0_lost) (b := s0_form) (c := s0_size) hN (nI f) (nI z)
            rw [e1, Option.bind_some]
            exact ⟨_, rfl, rfl, ⟨SBd_set hB f1 z1, ⟨by rw [lx_s]; rfl, by rw [ux_s], by rw [ux_s], fun i hi => by rw [ix_s]; exact e2 i hi⟩, SC1_oth (by omega) h1, SC1_oth (by omega) h2, SC1_oth (by omega) h3⟩, rfl⟩
          · obtain ⟨i', e1, e2⟩ := renew_eq (N := N) (i := s1_items) (a := s1_lost) (b := s1_form) (c := s1_size) hN (nI f) (nI z)
            rw [e1, Option.bind_some]
            exact ⟨_, rfl, rfl, ⟨SBd_set hB f1 z1, SC1_oth (by omega) h0, ⟨by rw [lx_s]; rfl, by rw [ux_s], by rw [ux_s], fun i hi => by rw [ix_s]; exact e2 i hi⟩, SC1_oth (by omega) h2, SC1_oth (by omega) h3⟩, rfl⟩
          · obtain ⟨i', e1, e2⟩ := renew_eq (N := N) (i := s2_items) (a := s2_lost) (b := s2_form) (c := s2_size) hN (nI f) (nI z)
            rw [e1, Option.bind_some]
            exact ⟨_, rfl, rfl, ⟨SBd_set hB f1 z1, SC1_oth (by omega) h0, SC1_oth (by omega) h1, ⟨by rw [lx_s]; rfl, by rw [ux_s], by rw [ux_s], fun i hi => by rw [ix_s]; exact e2 i hi⟩, SC1_oth (by omega) h3⟩, rfl⟩
          · obtain ⟨i', e1, e2⟩ := renew_eq (N := N) (i := s3_items) (a := s3_lost) (b := s3_form) (c := s3_size) hN (nI f) (nI z)
            rw [e1, Option.bind_some]
            exact ⟨_, rfl, rfl, ⟨SBd_set hB f1 z1, SC1_oth (by omega) h0, SC1_oth (by omega) h1, SC1_oth (by omega) h2, ⟨by rw [lx_s]; rfl, by rw [ux_s], by rw [ux_s], fun i hi => by rw [ix_s]; exact e2 i hi⟩⟩, rfl⟩
        · rw [if_neg c4, show shA lo fo si it fd p q r = ((-10 : Int32) - 5, lo, fo, si, it, 5) from by unfold shA; rw [if_pos ⟨c1, c2, c3⟩, if_neg c4]]
          unfold fX6_finding
          rw [Option.bind_some]
          exact ⟨_, rfl, rfl, hC0, rfl⟩
      · rw [if_neg c3, show shA lo fo si it fd p q r = (-2, lo, fo, si, it, fd) from if_neg (fun z => c3 z.2.2)]
        exact ⟨_, rfl, rfl, hC0, rfl⟩
    · rw [if_neg c2, if_pos i00, show shA lo fo si it fd p q r = (-2, lo, fo, si, it, fd) from if_neg (fun z => c2 z.2.1)]
      exact ⟨_, rfl, rfl, hC0, rfl⟩
  · rw [if_neg c1, if_pos i00, show shA lo fo si it fd p q r = (-2, lo, fo, si, it, fd) from if_neg (fun z => c1 z.1)]
    exact ⟨_, rfl, rfl, hC0, rfl⟩
theorem sheet7 (hN : 100 < N) (hM : ShM lo fo si it isThere forms sizes items) (p q r : Int32) : ∃ S, fX7_sheet N isThere forms sizes items fd p q r = some S ∧ S.1 = (shA lo fo si it fd p q r).1 ∧ ShM (shA lo fo si it fd p q r).2.1 (shA lo fo si it fd p q r).2.2.1 (shA lo fo si it fd p q r).2.2.2.1 (shA lo fo si it fd p q r).2.2.2.2.1 S.2.1 S.2.2.1 S.2.2.2.1 S.2.2.2.2.1 ∧ S.2.2.2.2.2 = (shA lo fo si it fd p q r).2.2.2.2.2 := by
  have hM0 := hM
  obtain ⟨hB, hM⟩ := hM
  unfold fX7_sheet
  rw [isSheet7_eq, Option.bind_some]
  by_cases c1 : 0 ≤ p ∧ p ≤ 3
  · rw [if_pos c1, if_neg i10, in_eq, Option.bind_some]
    by_cases c2 : 0 ≤ q ∧ q ≤ 2
    · rw [if_pos c2, if_neg i10]
      by_cases c3 : r ≤ 48
      · rw [if_pos c3]
        by_cases c4 : 0 ≤ r
        · rw [if_pos c4]
          obtain ⟨s, s1, rfl⟩ := ncase (m := 3) (by decide) c1
          obtain ⟨f, f1, rfl⟩ := ncase (m := 2) (by decide) c2
          obtain ⟨z, z1, rfl⟩ := ncase (m := 48) (by decide) ⟨c4, c3⟩
          rw [show shA lo fo si it fd (nI s) (nI f) (nI z) = (nI z, lx lo s false, ux fo s f, ux si s z, ix it s (fun _ => 0), fd) from by unfold shA; rw [if_pos ⟨c1, c2, c3⟩, if_pos c4, nI_clamp (show s < 2 ^ 31 by omega), nI_clamp (show f < 2 ^ 31 by omega), nI_clamp (show z < 2 ^ 31 by omega)], if_pos (chk_nI (by omega) (by omega)), if_pos (chk_nI (by omega) (by omega)), if_pos (chk_nI (by omega) (by omega)), nI_clamp (show s < 2 ^ 31 by omega), show vp_nar .boolean (1 : Int32) = 1 from by decide]
          obtain ⟨w, hw, e⟩ := lp_for (b := bX7_sheet_59 N (nI s) (nI f) (nI z) (upd isThere s 1) (upd forms s (nI f)) (upd sizes s (nI z)) fd) 48 (fun k st => ∃ i' : Nat → Int32, st = (nI k, i') ∧ (∀ j, j < k → i' (48 * s + j) = 0) ∧ ∀ x, x ≠ s → ∀ j, j < 48 → i' (48 * x + j) = items (48 * x + j)) (fun w => ∃ i' : Nat → Int32, w = some (nI z, upd isThere s 1, upd forms s (nI f), upd sizes s (nI z), i', fd) ∧ (∀ j, j < 48 → i' (48 * s + j) = 0) ∧ ∀ x, x ≠ s → ∀ j, j < 48 → i' (48 * x + j) = items (48 * x + j))
            (fun k st hk hp => by
              obtain ⟨i', rfl, p1, p2⟩ := hp
              left
              refine ⟨_, ⟨upd i' (48 * s + k) 0, rfl, fun j hj => ?_, fun x hx j hj => ?_⟩, fun κ => ?_⟩
              · unfold upd
                by_cases c : j = k
                · rw [if_pos (by omega)]
                · rw [if_neg (by omega)]; exact p1 j (by omega)
              · unfold upd
                rw [if_neg (by omega)]; exact p2 x hx j hj
              · unfold bX7_sheet_59
                simp only
                rw [li48, if_neg (by rw [nI_leI (by omega) (by omega)]; omega), pk_mul, nI_add, if_pos (chk_nI (by omega) (by omega)), nI_clamp (by omega), nI_1])
            (fun st hp => by
              obtain ⟨i', rfl, p1, p2⟩ := hp
              refine ⟨_, ⟨i', rfl, p1, p2⟩, fun κ => ?_⟩
              unfold bX7_sheet_59
              simp only
              rw [if_pos (by rw [li48, nI_leI (by omega) (by omega)]; omega)])
            (k := 0) (s := (0, items)) (N := N) (by omega) ⟨items, rfl, fun j hj => by omega, fun x _ j _ => rfl⟩ (by omega)
          obtain ⟨i', a1, a2, a3⟩ := hw
          rw [e, a1]
          refine ⟨_, rfl, rfl, ⟨SBd_set hB f1 z1, fun x hx => ?_⟩, rfl⟩
          simp only
          by_cases c : x = s
          · subst c
            rw [pk_us, pk_us, pk_us, lx_s, ux_s, ux_s, ix_s]
            exact ⟨rfl, rfl, rfl, fun j hj => a2 j hj⟩
          · obtain ⟨m1, m2, m3, m4⟩ := hM x hx
            rw [pk_un c, pk_un c, pk_un c, lx_o c, ux_o c, ux_o c, ix_o c]
            exact ⟨m1, m2, m3, fun j hj => by rw [a3 x c j hj]; exact m4 j hj⟩
        · rw [if_neg c4, show shA lo fo si it fd p q r = ((-10 : Int32) - 5, lo, fo, si, it, 5) from by unfold shA; rw [if_pos ⟨c1, c2, c3⟩, if_neg c4]]
          unfold fX7_meets
          rw [Option.bind_some]
          exact ⟨_, rfl, rfl, hM0, rfl⟩
      · rw [if_neg c3, show shA lo fo si it fd p q r = (-2, lo, fo, si, it, fd) from if_neg (fun z => c3 z.2.2)]
        exact ⟨_, rfl, rfl, hM0, rfl⟩
    · rw [if_neg c2, if_pos i00, show shA lo fo si it fd p q r = (-2, lo, fo, si, it, fd) from if_neg (fun z => c2 z.2.1)]
      exact ⟨_, rfl, rfl, hM0, rfl⟩
  · rw [if_neg c1, if_pos i00, show shA lo fo si it fd p q r = (-2, lo, fo, si, it, fd) from if_neg (fun z => c1 z.1)]
    exact ⟨_, rfl, rfl, hM0, rfl⟩
def loA (lo : Nat → Bool) (si : Nat → Nat) (fd p : Int32) : Int32 × (Nat → Bool) × Int32 := if 0 ≤ p ∧ p ≤ 3 then (if lo (Int32.toNatClampNeg p) then ((-10 : Int32) - 1, lo, 1) else (nI (si (Int32.toNatClampNeg p)), lx lo (Int32.toNatClampNeg p) true, fd)) else (-2, lo, fd)
theorem lose6 (hC : ShC lo fo si it s0_items s0_lost s0_form s0_size s1_items s1_lost s1_form s1_size s2_items s2_lost s2_form s2_size s3_items s3_lost s3_form s3_size) (p : Int32) : ∃ R, fX6_lose s0_lost s0_size s1_lost s1_size s2_lost s2_size s3_lost s3_size fd p = some R ∧ R.1 = (loA lo si fd p).1 ∧ ShC (loA lo si fd p).2.1 fo si it s0_items R.2.1 s0_form s0_size s1_items R.2.2.1 s1_form s1_size s2_items R.2.2.2.1 s2_form s2_size s3_items R.2.2.2.2.1 s3_form s3_size ∧ R.2.2.2.2.2 = (loA lo si fd p).2.2 := by
  have hC0 := hC
  obtain ⟨hB, h0, h1, h2, h3⟩ := hC
  unfold fX6_lose
  rw [isSheet6_eq, Option.bind_some]
  by_cases c1 : 0 ≤ p ∧ p ≤ 3
  · rw [if_pos c1, if_neg i10]
    obtain ⟨s, s1, rfl⟩ := ncase (m := 3) (by decide) c1
    cases q : lo s with
    | true =>
      rw [show loA lo si fd (nI s) = ((-10 : Int32) - 1, lo, 1) from by unfold loA; rw [if_pos c1, nI_clamp (by omega), q, if_pos rfl]]
      rcases (show s = 0 ∨ s = 1 ∨ s = 2 ∨ s = 3 by omega) with e | e | e | e <;> subst e <;> simp only [dI00, dI01, dI02, dI03, dI10, dI11, dI12, dI13, dI20, dI21, dI22, dI23, dI30, dI31, dI32, dI33, if_true, if_false]
      · rw [if_neg (show ¬ s0_lost = 0 by rw [h0.1, q]; decide)]
        unfold fX6_finding
        rw [Option.bind_some]
        exact ⟨_, rfl, rfl, hC0, rfl⟩
      · rw [if_neg (show ¬ s1_lost = 0 by rw [h1.1, q]; decide)]
        unfold fX6_finding
        rw [Option.bind_some]
        exact ⟨_, rfl, rfl, hC0, rfl⟩
      · rw [if_neg (show ¬ s2_lost = 0 by rw [h2.1, q]; decide)]
        unfold fX6_finding
        rw [Option.bind_some]
        exact ⟨_, rfl, rfl, hC0, rfl⟩
      · rw [if_neg (show ¬ s3_lost = 0 by rw [h3.1, q]; decide)]
        unfold fX6_finding
        rw [Option.bind_some]
        exact ⟨_, rfl, rfl, hC0, rfl⟩
    | false =>
      rw [show loA lo si fd (nI s) = (nI (si s), lx lo s true, fd) from by unfold loA; rw [if_pos c1, nI_clamp (by omega), q, if_neg Bool.false_ne_true]]
      rcases (show s = 0 ∨ s = 1 ∨ s = 2 ∨ s = 3 by omega) with e | e | e | e <;> subst e <;> simp only [dI00, dI01, dI02, dI03, dI10, dI11, dI12, dI13, dI20, dI21, dI22, dI23, dI30, dI31, dI32, dI33, if_true, if_false]
      · rw [if_pos (show s0_lost = 0 by rw [h0.1, q]; rfl)]
        exact ⟨_, rfl, h0.2.2.1, ⟨hB, ⟨by rw [lx_s]; rfl, h0.2⟩, SC1_lx (by omega) h1, SC1_lx (by omega) h2, SC1_lx (by omega) h3⟩, rfl⟩
      · rw [if_pos (show s1_lost = 0 by rw [h1.1, q]; rfl)]
        exact ⟨_, rfl, h1.2.2.1, ⟨hB, SC1_lx (by omega) h0, ⟨by rw [lx_s]; rfl, h1.2⟩, SC1_lx (by omega) h2, SC1_lx (by omega) h3⟩, rfl⟩
      · rw [if_pos (show s2_lost = 0 by rw [h2.1, q]; rfl)]
        exact ⟨_, rfl, h2.2.2.1, ⟨hB, SC1_lx (by omega) h0, SC1_lx (by omega) h1, ⟨by rw [lx_s]; rfl, h2.2⟩, SC1_lx (by omega) h3⟩, rfl⟩
      · rw [if_pos (show s3_lost = 0 by rw [h3.1, q]; rfl)]
        exact ⟨_, rfl, h3.2.2.1, ⟨hB, SC1_lx (by omega) h0, SC1_lx (by omega) h1, SC1_lx (by omega) h2, ⟨by rw [lx_s]; rfl, h3.2⟩⟩, rfl⟩
  · rw [if_neg c1, if_pos i00, show loA lo si fd p = (-2, lo, fd) from if_neg c1]
    exact ⟨_, rfl, rfl, hC0, rfl⟩
theorem lose7 (hM : ShM lo fo si it isThere forms sizes items) (p : Int32) : ∃ S, fX7_lose isThere sizes fd p = some S ∧ S.1 = (loA lo si fd p).1 ∧ ShM (loA lo si fd p).2.1 fo si it S.2.1 forms sizes items ∧ S.2.2 = (loA lo si fd p).2.2 := by
  have hM0 := hM
  obtain ⟨hB, hM⟩ := hM
  unfold fX7_lose
  rw [isSheet7_eq, Option.bind_some]
  by_cases c1 : 0 ≤ p ∧ p ≤ 3
  · rw [if_pos c1, if_neg i10]
    obtain ⟨s, s1, rfl⟩ := ncase (m := 3) (by decide) c1
    obtain ⟨m1, m2, m3, m4⟩ := hM s (by omega)
    rw [if_pos (chk_nI (by omega) (by omega)), nI_clamp (show s < 2 ^ 31 by omega)]
    cases q : lo s with
    | true =>
      rw [show loA lo si fd (nI s) = ((-10 : Int32) - 1, lo, 1) from by unfold loA; rw [if_pos c1, nI_clamp (by omega), q, if_pos rfl], if_pos (show isThere s = 0 by rw [m1, q]; rfl)]
      unfold fX7_meets
      rw [Option.bind_some]
      exact ⟨_, rfl, rfl, hM0, rfl⟩
    | false =>
      rw [show loA lo si fd (nI s) = (nI (si s), lx lo s true, fd) from by unfold loA; rw [if_pos c1, nI_clamp (by omega), q, if_neg Bool.false_ne_true], if_neg (show ¬ isThere s = 0 by rw [m1, q]; decide), if_pos (chk_nI (by omega) (by omega)), if_pos (chk_nI (by omega) (by omega)), show vp_nar .boolean (0 : Int32) = 0 from by decide]
      refine ⟨_, rfl, m3, ⟨hB, fun x hx => ?_⟩, rfl⟩
      simp only
      by_cases c : x = s
      · subst c
        rw [pk_us, lx_s]
        exact ⟨rfl, m2, m3, m4⟩
      · rw [pk_un c, lx_o c]
        exact hM x hx
  · rw [if_neg c1, if_pos i00, show loA lo si fd p = (-2, lo, fd) from if_neg c1]
    exact ⟨_, rfl, rfl, hM0, rfl⟩
def lkA (lo : Nat → Bool) (fo si : Nat → Nat) (s : Nat) (q r : Int32) : Int32 := if lo s then 1 else if nI (fo s) = q then (if 0 ≤ r ∧ r ≤ nI (si s) - 1 then 0 else 2) else 3
def lwA (q v : Int32) : Int32 := if q = 0 then v.toInt8.toInt32 else if q = 1 then v.toInt16.toInt32 else v
theorem lk_ix {s : Nat} {q r : Int32} (hz : si s ≤ 48) (h : lkA lo fo si s q r = 0) : ∃ j, j < si s ∧ r = nI j ∧ nI (fo s) = q ∧ lo s = false := by
  unfold lkA at h
  cases ql : lo s with
  | true => rw [ql, if_pos rfl] at h; exact absurd h (by decide)
  | false =>
    rw [ql, if_neg Bool.false_ne_true] at h
    by_cases c1 : nI (fo s) = q
    · rw [if_pos c1] at h
      by_cases c2 : 0 ≤ r ∧ r ≤ nI (si s) - 1
      · rcases Nat.eq_zero_or_pos (si s) with z | z
        · rw [z, show nI 0 - 1 = (-1 : Int32) from by decide] at c2
          exfalso
          have h1 : ((-1 : Int32)).toInt = -1 := by decide
          have h0 : ((0 : Int32)).toInt = 0 := by decide
          simp only [Int32.le_iff_toInt_le, h1, h0] at c2
          omega
        · rw [nI_pd z] at c2
          obtain ⟨j, j1, j2⟩ := ncase (m := si s - 1) (by omega) c2
          exact ⟨j, by omega, j2, c1, rfl⟩
      · rw [if_neg c2] at h; exact absurd h (by decide)
    · rw [if_neg c1] at h; exact absurd h (by decide)
theorem lk_cases (s : Nat) (q r : Int32) : lkA lo fo si s q r = 0 ∨ lkA lo fo si s q r = 1 ∨ lkA lo fo si s q r = 2 ∨ lkA lo fo si s q r = 3 := by
  unfold lkA
  split
  · exact Or.inr (Or.inl rfl)
  · split
    · split
      · exact Or.inl rfl
      · exact Or.inr (Or.inr (Or.inl rfl))
    · exact Or.inr (Or.inr (Or.inr rfl))
theorem low_eq (q v : Int32) : fX6_lowestBits q v = some (lwA q v) := by
  unfold fX6_lowestBits lwA
  split
  · rfl
  · split <;> rfl
theorem fai_eq (hC : ShC lo fo si it s0_items s0_lost s0_form s0_size s1_items s1_lost s1_form s1_size s2_items s2_lost s2_form s2_size s3_items s3_lost s3_form s3_size) {s : Nat} (hs : s ≤ 3) (q r : Int32) : fX6_findingAtItem s0_lost s0_form s0_size s1_lost s1_form s1_size s2_lost s2_form s2_size s3_lost s3_form s3_size (nI s) q r = some (lkA lo fo si s q r) := by
  obtain ⟨hB, h0, h1, h2, h3⟩ := hC
  have core : ∀ (l f z : Int32), l = bI (lo s) → f = nI (fo s) → z = nI (si s) → (if l = 0 then (if f = q then (fX6_within r (0 : Int32) (z - (1 : Int32))).bind (fun u4 => (if u4 = 0 then some (2 : Int32) else some (0 : Int32))) else some (3 : Int32)) else some (1 : Int32)) = some (lkA lo fo si s q r) := by
    intro l f z e1 e2 e3
    subst e1 e2 e3
    unfold lkA
    rw [within_eq, Option.bind_some]
    cases lo s with
    | true => rfl
    | false =>
      rw [if_pos (show bI false = 0 from rfl), if_neg Bool.false_ne_true]
      by_cases c1 : nI (fo s) = q
      · rw [if_pos c1, if_pos c1]
        by_cases c2 : 0 ≤ r ∧ r ≤ nI (si s) - 1
        · rw [if_pos c2, if_neg i10, if_pos c2]
        · rw [if_neg c2, if_pos i00, if_neg c2]
      · rw [if_neg c1, if_neg c1]
  unfold fX6_findingAtItem
  rcases (show s = 0 ∨ s = 1 ∨ s = 2 ∨ s = 3 by omega) with e | e | e | e <;> subst e <;> simp only [dI00, dI01, dI02, dI03, dI10, dI11, dI12, dI13, dI20, dI21, dI22, dI23, dI30, dI31, dI32, dI33, if_true, if_false]
  · exact core _ _ _ h0.1 h0.2.1 h0.2.2.1
  · exact core _ _ _ h1.1 h1.2.1 h1.2.2.1
  · exact core _ _ _ h2.1 h2.2.1 h2.2.2.1
  · exact core _ _ _ h3.1 h3.2.1 h3.2.2.1
theorem lacks_eq (hM : ShM lo fo si it isThere forms sizes items) {s : Nat} (hs : s ≤ 3) (q r : Int32) : fX7_lacks isThere forms sizes (nI s) q r = some (lkA lo fo si s q r) := by
  obtain ⟨m1, m2, m3, m4⟩ := hM.2 s (by omega)
  unfold fX7_lacks lkA
  rw [if_pos (chk_nI (by omega) (by omega)), if_pos (chk_nI (by omega) (by omega)), if_pos (chk_nI (by omega) (by omega)), nI_clamp (by omega), m1, m2, m3, in_eq, Option.bind_some]
  cases lo s with
  | true => rfl
  | false =>
    rw [if_neg (show ¬ bI (!false) = 0 by decide), if_neg Bool.false_ne_true]
    by_cases c1 : nI (fo s) = q
    · rw [if_pos c1, if_pos c1]
      by_cases c2 : 0 ≤ r ∧ r ≤ nI (si s) - 1
      · rw [if_pos c2, if_neg i10, if_pos c2]
      · rw [if_neg c2, if_pos i00, if_neg c2]
    · rw [if_neg c1, if_neg c1]
theorem keep7_eq (hM : ShM lo fo si it isThere forms sizes items) {s j : Nat} (hs : s ≤ 3) (hj : j < 48) (v : Int32) : fX7_keep forms items (nI s) (nI j) v = some (upd items (48 * s + j) (lwA (nI (fo s)) v)) := by
  obtain ⟨m1, m2, m3, m4⟩ := hM.2 s (by omega)
  unfold fX7_keep bX7_keep_40 lwA
  rw [if_pos (chk_nI (by omega) (by omega)), if_pos (chk_nI (show s < 4 by omega) (by omega)), nI_clamp (by omega), m2, li48, pk_mul, nI_add, if_pos (chk_nI (by omega) (by omega)), if_pos (chk_nI (by omega) (by omega)), if_pos (chk_nI (by omega) (by omega)), nI_clamp (by omega)]
  split
  · rfl
  · split <;> rfl
theorem ShM_put (hM : ShM lo fo si it isThere forms sizes items) {s j : Nat} (hs : s ≤ 3) (hj : j < 48) (v : Int32) : ShM lo fo si (ix it s (upd (it s) j v)) isThere forms sizes (upd items (48 * s + j) v) := by
  refine ⟨hM.1, fun x hx => ?_⟩
  obtain ⟨m1, m2, m3, m4⟩ := hM.2 x hx
  refine ⟨m1, m2, m3, fun i hi => ?_⟩
  by_cases c : x = s
  · subst c
    rw [ix_s]
    unfold upd
    by_cases d : i = j
    · rw [if_pos (by omega), if_pos d]
    · rw [if_neg (by omega), if_neg d]; exact m4 i hi
  · rw [ix_o c, pk_un (by omega)]; exact m4 i hi
def puA (lo : Nat → Bool) (fo si : Nat → Nat) (it : Nat → Nat → Int32) (fd p q r v : Int32) : Int32 × (Nat → Nat → Int32) × Int32 := if (0 ≤ p ∧ p ≤ 3) ∧ (0 ≤ q ∧ q ≤ 2) then (if lkA lo fo si (Int32.toNatClampNeg p) q r = 0 then (1, ix it (Int32.toNatClampNeg p) (upd (it (Int32.toNatClampNeg p)) (Int32.toNatClampNeg r) (lwA q v)), fd) else ((-10 : Int32) - lkA lo fo si (Int32.toNatClampNeg p) q r, it, lkA lo fo si (Int32.toNatClampNeg p) q r)) else (-2, it, fd)
theorem put6 (hC : ShC lo fo si it s0_items s0_lost s0_form s0_size s1_items s1_lost s1_form s1_size s2_items s2_lost s2_form s2_size s3_items s3_lost s3_form s3_size) (p q r v : Int32) : ∃ R, fX6_put s0_items s0_lost s0_form s0_size s1_items s1_lost s1_form s1_size s2_items s2_lost s2_form s2_size s3_items s3_lost s3_form s3_size fd p q r v = some R ∧ R.1 = (puA lo fo si it fd p q r v).1 ∧ ShC lo fo si (puA lo fo si it fd p q r v).2.1 R.2.1 s0_lost s0_form s0_size R.2.2.1 s1_lost s1_form s1_size R.2.2.2.1 s2_lost s2_form s2_size R.2.2.2.2.1 s3_lost s3_form s3_size ∧ R.2.2.2.2.2 = (puA lo fo si it fd p q r v).2.2 := by
  have hC0 := hC
  unfold fX6_put
  rw [isSheet6_eq, Option.bind_some]
  by_cases c1 : 0 ≤ p ∧ p ≤ 3
  · rw [if_pos c1, if_neg i10, isForm6_eq, Option.bind_some]
    by_cases c2 : 0 ≤ q ∧ q ≤ 2
    · rw [if_pos c2, if_neg i10]
      obtain ⟨s, s1, rfl⟩ := ncase (m := 3) (by decide) c1
      rw [fai_eq hC0 s1, Option.bind_some]
      obtain ⟨hB, h0, h1, h2, h3⟩ := hC
      by_cases c3 : lkA lo fo si s q r = 0
      · rw [if_pos c3]
        obtain ⟨j, j1, rfl, j3, j4⟩ := lk_ix (hB s (by omega)).2 c3
        have hz := (hB s (by omega)).2
        rw [show puA lo fo si it fd (nI s) q (nI j) v = (1, ix it s (upd (it s) j (lwA q v)), fd) from by unfold puA; rw [if_pos ⟨c1, c2⟩, nI_clamp (show s < 2 ^ 31 by omega), if_pos c3, nI_clamp (show j < 2 ^ 31 by omega)], low_eq, Option.bind_some, if_pos (chk_nI (show j < 48 by omega) (by omega)), nI_clamp (show j < 2 ^ 31 by omega)]
        rcases (show s = 0 ∨ s = 1 ∨ s = 2 ∨ s = 3 by omega) with e | e | e | e <;> subst e <;> simp only [dI00, dI01, dI02, dI03, dI10, dI11, dI12, dI13, dI20, dI21, dI22, dI23, dI30, dI31, dI32, dI33, if_true, if_false, Option.bind_some, chk_nI (show j < 48 by omega) (by omega)]
        · exact ⟨_, rfl, rfl, ⟨hB, ⟨h0.1, h0.2.1, h0.2.2.1, fun i hi => by rw [ix_s]; exact up_eq (h0.2.2.2 i hi)⟩, SC1_ix (by omega) h1, SC1_ix (by omega) h2, SC1_ix (by omega) h3⟩, rfl⟩
        · exact ⟨_, rfl, rfl, ⟨hB, SC1_ix (by omega) h0, ⟨h1.1, h1.2.1, h1.2.2.1, fun i hi => by rw [ix_s]; exact up_eq (h1.2.2.2 i hi)⟩, SC1_ix (by omega) h2, SC1_ix (by omega) h3⟩, rfl⟩
        · exact ⟨_, rfl, rfl, ⟨hB, SC1_ix (by omega) h0, SC1_ix (by omega) h1, ⟨h2.1, h2.2.1, h2.2.2.1, fun i hi => by rw [ix_s]; exact up_eq (h2.2.2.2 i hi)⟩, SC1_ix (by omega) h3⟩, rfl⟩
        · exact ⟨_, rfl, rfl, ⟨hB, SC1_ix (by omega) h0, SC1_ix (by omega) h1, SC1_ix (by omega) h2, ⟨h3.1, h3.2.1, h3.2.2.1, fun i hi => by rw [ix_s]; exact up_eq (h3.2.2.2 i hi)⟩⟩, rfl⟩
      · rw [if_neg c3, show puA lo fo si it fd (nI s) q r v = ((-10 : Int32) - lkA lo fo si s q r, it, lkA lo fo si s q r) from by unfold puA; rw [if_pos ⟨c1, c2⟩, nI_clamp (show s < 2 ^ 31 by omega), if_neg c3]]
        unfold fX6_finding
        rw [Option.bind_some]
        exact ⟨_, rfl, rfl, hC0, rfl⟩
    · rw [if_neg c2, if_pos i00, show puA lo fo si it fd p q r v = (-2, it, fd) from if_neg (fun z => c2 z.2)]
      exact ⟨_, rfl, rfl, hC0, rfl⟩
  · rw [if_neg c1, if_pos i00, show puA lo fo si it fd p q r v = (-2, it, fd) from if_neg (fun z => c1 z.1)]
    exact ⟨_, rfl, rfl, hC0, rfl⟩
theorem put7 (hM : ShM lo fo si it isThere forms sizes items) (p q r v : Int32) : ∃ S, fX7_put isThere forms sizes items fd p q r v = some S ∧ S.1 = (puA lo fo si it fd p q r v).1 ∧ ShM lo fo si (puA lo fo si it fd p q r v).2.1 isThere forms sizes S.2.1 ∧ S.2.2 = (puA lo fo si it fd p q r v).2.2 := by
  unfold fX7_put
  rw [isSheet7_eq, Option.bind_some]
  by_cases c1 : 0 ≤ p ∧ p ≤ 3
  · rw [if_pos c1, if_neg i10, in_eq, Option.bind_some]
    by_cases c2 : 0 ≤ q ∧ q ≤ 2
    · rw [if_pos c2, if_neg i10]
      obtain ⟨s, s1, rfl⟩ := ncase (m := 3) (by decide) c1
      rw [lacks_eq hM s1, Option.bind_some]
      have hz := (hM.1 s (by omega)).2
      by_cases c3 : lkA lo fo si s q r = 0
      · rw [if_pos (by rw [c3]; decide)]
        obtain ⟨j, j1, rfl, j3, j4⟩ := lk_ix hz c3
        rw [show puA lo fo si it fd (nI s) q (nI j) v = (1, ix it s (upd (it s) j (lwA q v)), fd) from by unfold puA; rw [if_pos ⟨c1, c2⟩, nI_clamp (show s < 2 ^ 31 by omega), if_pos c3, nI_clamp (show j < 2 ^ 31 by omega)], keep7_eq hM s1 (by omega), Option.bind_some, j3]
        exact ⟨_, rfl, rfl, ShM_put hM s1 (by omega) _, rfl⟩
      · rw [if_neg (by rcases lk_cases (lo := lo) (fo := fo) (si := si) s q r with z | z | z | z; exact absurd z c3; rw [z]; decide; rw [z]; decide; rw [z]; decide), show puA lo fo si it fd (nI s) q r v = ((-10 : Int32) - lkA lo fo si s q r, it, lkA lo fo si s q r) from by unfold puA; rw [if_pos ⟨c1, c2⟩, nI_clamp (show s < 2 ^ 31 by omega), if_neg c3]]
        unfold fX7_meets
        rw [Option.bind_some]
        exact ⟨_, rfl, rfl, hM, rfl⟩
    · rw [if_neg c2, if_pos i00, show puA lo fo si it fd p q r v = (-2, it, fd) from if_neg (fun z => c2 z.2)]
      exact ⟨_, rfl, rfl, hM, rfl⟩
  · rw [if_neg c1, if_pos i00, show puA lo fo si it fd p q r v = (-2, it, fd) from if_neg (fun z => c1 z.1)]
    exact ⟨_, rfl, rfl, hM, rfl⟩
def geA (lo : Nat → Bool) (fo si : Nat → Nat) (it : Nat → Nat → Int32) (fd p q r : Int32) : Int32 × Int32 := if (0 ≤ p ∧ p ≤ 3) ∧ (0 ≤ q ∧ q ≤ 2) then (if lkA lo fo si (Int32.toNatClampNeg p) q r = 0 then (it (Int32.toNatClampNeg p) (Int32.toNatClampNeg r), fd) else (-2147483648, lkA lo fo si (Int32.toNatClampNeg p) q r)) else (-2147483648, fd)
theorem get6 (hC : ShC lo fo si it s0_items s0_lost s0_form s0_size s1_items s1_lost s1_form s1_size s2_items s2_lost s2_form s2_size s3_items s3_lost s3_form s3_size) (p q r : Int32) : fX6_get s0_items s0_lost s0_form s0_size s1_items s1_lost s1_form s1_size s2_items s2_lost s2_form s2_size s3_items s3_lost s3_form s3_size fd p q r = some (geA lo fo si it fd p q r) := by
  have hC0 := hC
  unfold fX6_get bX6_get_14
  rw [isSheet6_eq, Option.bind_some]
  by_cases c1 : 0 ≤ p ∧ p ≤ 3
  · rw [if_pos c1, if_neg i10, isForm6_eq, Option.bind_some]
    by_cases c2 : 0 ≤ q ∧ q ≤ 2
    · rw [if_pos c2, if_neg i10]
      obtain ⟨s, s1, rfl⟩ := ncase (m := 3) (by decide) c1
      rw [fai_eq hC0 s1, Option.bind_some]
      obtain ⟨hB, h0, h1, h2, h3⟩ := hC
      have hz := (hB s (by omega)).2
      by_cases c3 : lkA lo fo si s q r = 0
      · rw [if_pos c3]
        obtain ⟨j, j1, rfl, j3, j4⟩ := lk_ix hz c3
        rw [nI_clamp (show j < 2 ^ 31 by omega), show geA lo fo si it fd (nI s) q (nI j) = (it s j, fd) from by unfold geA; rw [nI_clamp (show s < 2 ^ 31 by omega), nI_clamp (show j < 2 ^ 31 by omega)]; exact (if_pos ⟨c1, c2⟩).trans (if_pos c3)]
        rcases (show s = 0 ∨ s = 1 ∨ s = 2 ∨ s = 3 by omega) with e | e | e | e <;> subst e <;> simp only [dI00, dI01, dI02, dI03, dI10, dI11, dI12, dI13, dI20, dI21, dI22, dI23, dI30, dI31, dI32, dI33, if_true, if_false, chk_nI (show j < 48 by omega) (by omega)]
        · rw [h0.2.2.2 j (by omega)]
        · rw [h1.2.2.2 j (by omega)]
        · rw [h2.2.2.2 j (by omega)]
        · rw [h3.2.2.2 j (by omega)]
      · rw [if_neg c3, show geA lo fo si it fd (nI s) q r = (-2147483648, lkA lo fo si s q r) from by unfold geA; rw [nI_clamp (show s < 2 ^ 31 by omega)]; exact (if_pos ⟨c1, c2⟩).trans (if_neg c3)]
    · rw [if_neg c2, if_pos i00, show geA lo fo si it fd p q r = (-2147483648, fd) from if_neg (fun z => c2 z.2)]
  · rw [if_neg c1, if_pos i00, show geA lo fo si it fd p q r = (-2147483648, fd) from if_neg (fun z => c1 z.1)]
theorem get7 (hM : ShM lo fo si it isThere forms sizes items) (p q r : Int32) : fX7_get isThere forms sizes items fd p q r = some (geA lo fo si it fd p q r) := by
  unfold fX7_get bX7_get_16
  rw [isSheet7_eq, Option.bind_some]
  by_cases c1 : 0 ≤ p ∧ p ≤ 3
  · rw [if_pos c1, if_neg i10, in_eq, Option.bind_some]
    by_cases c2 : 0 ≤ q ∧ q ≤ 2
    · rw [if_pos c2, if_neg i10]
      obtain ⟨s, s1, rfl⟩ := ncase (m := 3) (by decide) c1
      rw [lacks_eq hM s1, Option.bind_some]
      have hz := (hM.1 s (by omega)).2
      by_cases c3 : lkA lo fo si s q r = 0
      · rw [if_pos (show lkA lo fo si s q r ≤ 0 by rw [c3]; decide)]
        obtain ⟨j, j1, rfl, j3, j4⟩ := lk_ix hz c3
        rw [li48, pk_mul, nI_add, if_pos (chk_nI (by omega) (by omega)), nI_clamp (by omega), (hM.2 s (by omega)).2.2.2 j (by omega), show geA lo fo si it fd (nI s) q (nI j) = (it s j, fd) from by unfold geA; rw [nI_clamp (show s < 2 ^ 31 by omega), nI_clamp (show j < 2 ^ 31 by omega)]; exact (if_pos ⟨c1, c2⟩).trans (if_pos c3)]
      · rw [if_neg (show ¬ lkA lo fo si s q r ≤ 0 by rcases lk_cases (lo := lo) (fo := fo) (si := si) s q r with z | z | z | z; exact absurd z c3; rw [z]; decide; rw [z]; decide; rw [z]; decide), show geA lo fo si it fd (nI s) q r = (-2147483648, lkA lo fo si s q r) from by unfold geA; rw [nI_clamp (show s < 2 ^ 31 by omega)]; exact (if_pos ⟨c1, c2⟩).trans (if_neg c3)]
    · rw [if_neg c2, if_pos i00, show geA lo fo si it fd p q r = (-2147483648, fd) from if_neg (fun z => c2 z.2)]
  · rw [if_neg c1, if_pos i00, show geA lo fo si it fd p q r = (-2147483648, fd) from if_neg (fun z => c1 z.1)]
end SH

/-! ===== copy (printed by wip/gen/gencp.py) ===== -/
def hB (z : Nat) (i n : Int32) : Bool := decide (0 ≤ i.toInt ∧ 0 ≤ n.toInt ∧ i.toInt + n.toInt ≤ (z : Int))
theorem hB_iff {z : Nat} {i n : Int32} : hB z i n = true ↔ 0 ≤ i.toInt ∧ 0 ≤ n.toInt ∧ i.toInt + n.toInt ≤ (z : Int) := by unfold hB; exact decide_eq_true_iff
theorem nn_of {x : Int32} (h : 0 ≤ x.toInt) : ∃ a, a < 2 ^ 31 ∧ x = nI a := by
  refine nI_of ?_
  rw [Int32.lt_iff_toInt_lt, show ((0 : Int32)).toInt = 0 from by decide]
  omega
theorem hB_nat {z : Nat} {i n : Int32} (h : hB z i n = true) : ∃ a m, i = nI a ∧ n = nI m ∧ a + m ≤ z ∧ a < 2 ^ 31 ∧ m < 2 ^ 31 := by
  obtain ⟨h1, h2, h3⟩ := hB_iff.mp h
  obtain ⟨a, a1, rfl⟩ := nn_of h1
  obtain ⟨m, m1, rfl⟩ := nn_of h2
  rw [nI_toInt a1, nI_toInt m1] at h3
  exact ⟨a, m, rfl, rfl, by omega, a1, m1⟩
theorem lt0 (x : Int32) : x < 0 ↔ x.toInt < 0 := by rw [Int32.lt_iff_toInt_lt, show ((0 : Int32)).toInt = 0 from by decide]
theorem hasItems_eq {z : Nat} (hz : z ≤ 48) (i n : Int32) : fX3_hasItems (nI z) i n = some (if hB z i n then 1 else 0) := by
  unfold fX3_hasItems
  by_cases c1 : i < 0
  · rw [if_pos c1, if_neg (fun h => by have := (hB_iff.mp h).1; rw [lt0] at c1; omega)]
  · rw [if_neg c1]
    by_cases c2 : n < 0
    · rw [if_pos c2, if_neg (fun h => by have := (hB_iff.mp h).2.1; rw [lt0] at c2; omega)]
    · rw [if_neg c2]
      rw [lt0] at c1 c2
      obtain ⟨a, a1, rfl⟩ := nn_of (show 0 ≤ i.toInt by omega)
      obtain ⟨m, m1, rfl⟩ := nn_of (show 0 ≤ n.toInt by omega)
      have hh : hB z (nI a) (nI m) = true ↔ a + m ≤ z := by
        rw [hB_iff, nI_toInt a1, nI_toInt m1]; omega
      by_cases c3 : z < m
      · rw [if_pos (by rw [nI_ltI (by omega) (by omega)]; exact c3), if_neg (fun h => by have := hh.mp h; omega)]
      · rw [if_neg (by rw [nI_ltI (by omega) (by omega)]; exact c3), pk_sub (by omega)]
        by_cases c4 : z - m < a
        · rw [if_pos (by rw [nI_ltI (by omega) (by omega)]; exact c4), if_neg (fun h => by have := hh.mp h; omega)]
        · rw [if_neg (by rw [nI_ltI (by omega) (by omega)]; exact c4), if_pos (hh.mpr (by omega))]
theorem cmp_gt {x y : Nat} (hx : x < 2 ^ 63) (hy : y < 2 ^ 63) : (0 < lg_cmp (lN x) (lN y)) ↔ y < x := by
  unfold lg_cmp
  by_cases c : y < x
  · rw [if_pos ((pk_lLT hy hx).mpr c)]; exact ⟨fun _ => c, fun _ => by decide⟩
  · rw [if_neg (fun h => c ((pk_lLT hy hx).mp h))]
    constructor
    · intro h
      exfalso
      split at h
      · exact absurd h (by decide)
      · exact absurd h (by decide)
    · intro h; exact absurd h c
theorem cmp_le {x y : Nat} (hx : x < 2 ^ 63) (hy : y < 2 ^ 63) : (lg_cmp (lN x) (lN y) ≤ 0) ↔ x ≤ y := by
  rw [← Int32.not_lt, cmp_gt hx hy]; omega
theorem cpy_eq {f f' g g' : Nat → Int32} {a b m : Nat} (hf : ∀ i, i < 48 → f i = f' i) (hg : ∀ i, i < 48 → g i = g' i) (h : a + m ≤ 48) : ∀ i, i < 48 → va_cpy f g a b m i = va_cpy f' g' a b m i := by
  intro i hi
  by_cases c : b ≤ i ∧ i < b + m
  · rw [pk_cpy_in c.1 c.2, pk_cpy_in c.1 c.2, hf _ (by omega)]
  · rw [pk_cpy_out (by omega), pk_cpy_out (by omega), hg i hi]
def coA (lo : Nat → Bool) (fo si : Nat → Nat) (it : Nat → Nat → Int32) (fd p q r u v : Int32) : Int32 × (Nat → Nat → Int32) × Int32 := if (0 ≤ p ∧ p ≤ 3) ∧ (0 ≤ r ∧ r ≤ 3) then (if (lo (Int32.toNatClampNeg p) || lo (Int32.toNatClampNeg r)) = true then ((-10 : Int32) - 1, it, 1) else if fo (Int32.toNatClampNeg p) = fo (Int32.toNatClampNeg r) then (if (hB (si (Int32.toNatClampNeg p)) q v && hB (si (Int32.toNatClampNeg r)) u v) = true then (1, ix it (Int32.toNatClampNeg r) (va_cpy (it (Int32.toNatClampNeg p)) (it (Int32.toNatClampNeg r)) (Int32.toNatClampNeg q) (Int32.toNatClampNeg u) (Int32.toNatClampNeg v)), fd) else ((-10 : Int32) - 2, it, 2)) else ((-10 : Int32) - 4, it, 4)) else (-2, it, fd)
section CO
variable {N : Nat} {lo : Nat → Bool} {fo si : Nat → Nat} {it : Nat → Nat → Int32} {fd : Int32} {s0_items s1_items s2_items s3_items : Nat → Int32} {s0_lost s0_form s0_size s1_lost s1_form s1_size s2_lost s2_form s2_size s3_lost s3_form s3_size : Int32} {isThere forms sizes items moved : Nat → Int32}
theorem copy6core {X : Type} (F1 F2 F4 KK : Option X) {s t : Nat} (hs : si s ≤ 48) (ht : si t ≤ 48) (hfs : fo s ≤ 2) (hft : fo t ≤ 2) {is_ it_ : Nat → Int32} {ls fs zs l2 f2 z2 : Int32} (h1 : SC1 lo fo si it s is_ ls fs zs) (h2 : SC1 lo fo si it t it_ l2 f2 z2) (q u v : Int32) :
    (if ls = 0 then (if l2 = 0 then (if fs = f2 then (fX3_hasItems zs q v).bind (fun u14 => (if u14 = 0 then F2 else (fX3_hasItems z2 u v).bind (fun u19 => (if u19 = 0 then F2 else if (¬ q < 0 ∧ ¬ u < 0 ∧ ¬ v < 0 ∧ Int32.toNatClampNeg q + Int32.toNatClampNeg v ≤ 48 ∧ Int32.toNatClampNeg u + Int32.toNatClampNeg v ≤ 48) then KK else none)))) else F4) else F1) else F1) = (if (lo s || lo t) = true then F1 else if fo s = fo t then (if (hB (si s) q v && hB (si t) u v) = true then KK else F2) else F4) := by
  rw [h1.1, h1.2.1, h1.2.2.1, h2.1, h2.2.1, h2.2.2.1, hasItems_eq hs, hasItems_eq ht, Option.bind_some, Option.bind_some]
  cases lo s with
  | true => rfl
  | false =>
    cases lo t with
    | true => rfl
    | false =>
      rw [if_pos (show bI false = 0 from rfl), if_pos (show bI false = 0 from rfl), if_neg (show ¬ (false || false) = true by decide)]
      by_cases c : fo s = fo t
      · rw [if_pos (by rw [c]), if_pos c]
        cases q1 : hB (si s) q v with
        | false => rfl
        | true =>
          cases q2 : hB (si t) u v with
          | false => rfl
          | true =>
            obtain ⟨a, m, rfl, rfl, b1, b2, b3⟩ := hB_nat q1
            obtain ⟨a', m', rfl, e, b4, b5, b6⟩ := hB_nat q2
            have em := (nI_eq b3 b6).mp e
            subst em
            rw [if_pos rfl, if_neg i10, if_neg i10]
            refine if_pos ⟨nI_pos b2, nI_pos b5, nI_pos b3, ?_, ?_⟩
            · rw [nI_clamp b2, nI_clamp b3]; omega
            · rw [nI_clamp b5, nI_clamp b3]; omega
      · rw [if_neg (by rw [nI_eq (by omega) (by omega)]; exact c), if_neg c]
theorem copy6same {X : Type} (F1 F2 KK : Option X) {s : Nat} (hs : si s ≤ 48) (hfs : fo s ≤ 2) {is_ : Nat → Int32} {ls fs zs : Int32} (h1 : SC1 lo fo si it s is_ ls fs zs) (q u v : Int32) :
    (if ls = 0 then (if ls = 0 then (fX3_hasItems zs q v).bind (fun u14 => (if u14 = 0 then F2 else (fX3_hasItems zs u v).bind (fun u19 => (if u19 = 0 then F2 else if (¬ q < 0 ∧ ¬ u < 0 ∧ ¬ v < 0 ∧ Int32.toNatClampNeg q + Int32.toNatClampNeg v ≤ 48 ∧ Int32.toNatClampNeg u + Int32.toNatClampNeg v ≤ 48) then KK else none)))) else F1) else F1) = (if (lo s || lo s) = true then F1 else if fo s = fo s then (if (hB (si s) q v && hB (si s) u v) = true then KK else F2) else F1) := by
  have z := copy6core F1 F2 F1 KK hs hs hfs hfs h1 h1 q u v
  rw [if_pos (rfl : fs = fs)] at z
  exact z
theorem copy6 (hC : ShC lo fo si it s0_items s0_lost s0_form s0_size s1_items s1_lost s1_form s1_size s2_items s2_lost s2_form s2_size s3_items s3_lost s3_form s3_size) (p q r u v : Int32) : ∃ R, fX6_copy s0_items s0_lost s0_form s0_size s1_items s1_lost s1_form s1_size s2_items s2_lost s2_form s2_size s3_items s3_lost s3_form s3_size fd p q r u v = some R ∧ R.1 = (coA lo fo si it fd p q r u v).1 ∧ ShC lo fo si (coA lo fo si it fd p q r u v).2.1 R.2.1 s0_lost s0_form s0_size R.2.2.1 s1_lost s1_form s1_size R.2.2.2.1 s2_lost s2_form s2_size R.2.2.2.2.1 s3_lost s3_form s3_size ∧ R.2.2.2.2.2 = (coA lo fo si it fd p q r u v).2.2 := by
  have hC0 := hC
  unfold fX6_copy
  rw [isSheet6_eq, Option.bind_some]
  by_cases c1 : 0 ≤ p ∧ p ≤ 3
  · rw [if_pos c1, if_neg i10, isSheet6_eq, Option.bind_some]
    by_cases c2 : 0 ≤ r ∧ r ≤ 3
    · rw [if_pos c2, if_neg i10]
      obtain ⟨s, s1, rfl⟩ := ncase (m := 3) (by decide) c1
      obtain ⟨t, t1, rfl⟩ := ncase (m := 3) (by decide) c2
      obtain ⟨hBd, h0, h1, h2, h3⟩ := hC
      have b0 := hBd 0 (by omega)
      have b1 := hBd 1 (by omega)
      have b2 := hBd 2 (by omega)
      have b3 := hBd 3 (by omega)
      have hA : coA lo fo si it fd (nI s) q (nI t) u v = (if (lo s || lo t) = true then ((-10 : Int32) - 1, it, 1) else if fo s = fo t then (if (hB (si s) q v && hB (si t) u v) = true then (1, ix it t (va_cpy (it s) (it t) (Int32.toNatClampNeg q) (Int32.toNatClampNeg u) (Int32.toNatClampNeg v)), fd) else ((-10 : Int32) - 2, it, 2)) else ((-10 : Int32) - 4, it, 4)) := by
        unfold coA
        rw [nI_clamp (show s < 2 ^ 31 by omega), nI_clamp (show t < 2 ^ 31 by omega)]
        exact if_pos ⟨c1, c2⟩
      have hAt : (hB (si s) q v && hB (si t) u v) = true → Int32.toNatClampNeg q + Int32.toNatClampNeg v ≤ 48 := by
        intro z
        rw [Bool.and_eq_true] at z
        obtain ⟨a, m, rfl, rfl, z1, z2, z3⟩ := hB_nat z.1
        rw [nI_clamp z2, nI_clamp z3]
        have := (hBd s (by omega)).2
        omega
      rw [hA]
      rcases (show s = 0 ∨ s = 1 ∨ s = 2 ∨ s = 3 by omega) with e | e | e | e <;> subst e
      · rcases (show t = 0 ∨ t = 1 ∨ t = 2 ∨ t = 3 by omega) with e | e | e | e <;> subst e
        · simp only [dI00, dI01, dI02, dI03, dI00, dI01, dI02, dI03, if_true, if_false]
          rw [copy6same _ _ _ b0.2 b0.1 h0]
          unfold bX6_copy_49 bX6_copy_97 fX6_finding
          rw [Option.bind_some, Option.bind_some]
          by_cases z1 : (lo 0 || lo 0) = true
          · rw [if_pos z1, if_pos z1]; exact ⟨_, rfl, rfl, hC0, rfl⟩
          · rw [if_neg z1, if_neg z1]
            by_cases z2 : fo 0 = fo 0
            · rw [if_pos z2]
              by_cases z3 : (hB (si 0) q v && hB (si 0) u v) = true
              · rw [if_pos z3, if_pos z3]; exact ⟨_, rfl, rfl, ⟨hBd, ⟨h0.1, h0.2.1, h0.2.2.1, fun i hi => (cpy_eq h0.2.2.2 h0.2.2.2 (hAt z3) i hi).trans (congrFun (ix_s it 0 _).symm i)⟩, SC1_ix (by omega) h1, SC1_ix (by omega) h2, SC1_ix (by omega) h3⟩, rfl⟩
              · rw [if_neg z3, if_neg z3]; exact ⟨_, rfl, rfl, hC0, rfl⟩
            · exact absurd rfl z2
        · simp only [dI00, dI01, dI02, dI03, dI10, dI11, dI12, dI13, if_true, if_false]
          rw [copy6core _ _ _ _ b0.2 b1.2 b0.1 b1.1 h0 h1]
          unfold bX6_copy_49 bX6_copy_97 fX6_finding
          rw [Option.bind_some, Option.bind_some, Option.bind_some]
          by_cases z1 : (lo 0 || lo 1) = true
          · rw [if_pos z1, if_pos z1]; exact ⟨_, rfl, rfl, hC0, rfl⟩
          · rw [if_neg z1, if_neg z1]
            by_cases z2 : fo 0 = fo 1
            · rw [if_pos z2, if_pos z2]
              by_cases z3 : (hB (si 0) q v && hB (si 1) u v) = true
              · rw [if_pos z3, if_pos z3]; exact ⟨_, rfl, rfl, ⟨hBd, SC1_ix (by omega) h0, ⟨h1.1, h1.2.1, h1.2.2.1, fun i hi => (cpy_eq h0.2.2.2 h1.2.2.2 (hAt z3) i hi).trans (congrFun (ix_s it 1 _).symm i)⟩, SC1_ix (by omega) h2, SC1_ix (by omega) h3⟩, rfl⟩
              · rw [if_neg z3, if_neg z3]; exact ⟨_, rfl, rfl, hC0, rfl⟩
            · rw [if_neg z2, if_neg z2]; exact ⟨_, rfl, rfl, hC0, rfl⟩
        · simp only [dI00, dI01, dI02, dI03, dI20, dI21, dI22, dI23, if_true, if_false]
          rw [copy6core _ _ _ _ b0.2 b2.2 b0.1 b2.1 h0 h2]
          unfold bX6_copy_49 bX6_copy_97 fX6_finding
          rw [Option.bind_some, Option.bind_some, Option.bind_some]
          by_cases z1 : (lo 0 || lo 2) = true
          · rw [if_pos z1, if_pos z1]; exact ⟨_, rfl, rfl, hC0, rfl⟩
          · rw [if_neg z1, if_neg z1]
            by_cases z2 : fo 0 = fo 2
            · rw [if_pos z2, if_pos z2]
              by_cases z3 : (hB (si 0) q v && hB (si 2) u v) = true
              · rw [if_pos z3, if_pos z3]; exact ⟨_, rfl, rfl, ⟨hBd, SC1_ix (by omega) h0, SC1_ix (by omega) h1, ⟨h2.1, h2.2.1, h2.2.2.1, fun i hi => (cpy_eq h0.2.2.2 h2.2.2.2 (hAt z3) i hi).trans (congrFun (ix_s it 2 _).symm i)⟩, SC1_ix (by omega) h3⟩, rfl⟩
              · rw [if_neg z3, if_neg z3]; exact ⟨_, rfl, rfl, hC0, rfl⟩
            · rw [if_neg z2, if_neg z2]; exact ⟨_, rfl, rfl, hC0, rfl⟩
        · simp only [dI00, dI01, dI02, dI03, dI30, dI31, dI32, dI33, if_true, if_false]
          rw [copy6core _ _ _ _ b0.2 b3.2 b0.1 b3.1 h0 h3]
          unfold bX6_copy_49 bX6_copy_97 fX6_finding
          rw [Option.bind_some, Option.bind_some, Option.bind_some]
          by_cases z1 : (lo 0 || lo 3) = true
          · rw [if_pos z1, if_pos z1]; exact ⟨_, rfl, rfl, hC0, rfl⟩
          · rw [if_neg z1, if_neg z1]
            by_cases z2 : fo 0 = fo 3
            · rw [if_pos z2, if_pos z2]
              by_cases z3 : (hB (si 0) q v && hB (si 3) u v) = true
              · rw [if_pos z3, if_pos z3]; exact ⟨_, rfl, rfl, ⟨hBd, SC1_ix (by omega) h0, SC1_ix (by omega) h1, SC1_ix (by omega) h2, ⟨h3.1, h3.2.1, h3.2.2.1, fun i hi => (cpy_eq h0.2.2.2 h3.2.2.2 (hAt z3) i hi).trans (congrFun (ix_s it 3 _).symm i)⟩⟩, rfl⟩
              · rw [if_neg z3, if_neg z3]; exact ⟨_, rfl, rfl, hC0, rfl⟩
            · rw [if_neg z2, if_neg z2]; exact ⟨_, rfl, rfl, hC0, rfl⟩
      · rcases (show t = 0 ∨ t = 1 ∨ t = 2 ∨ t = 3 by omega) with e | e | e | e <;> subst e
        · simp only [dI10, dI11, dI12, dI13, dI00, dI01, dI02, dI03, if_true, if_false]
          rw [copy6core _ _ _ _ b1.2 b0.2 b1.1 b0.1 h1 h0]
          unfold bX6_copy_49 bX6_copy_97 fX6_finding
          rw [Option.bind_some, Option.bind_some, Option.bind_some]
          by_cases z1 : (lo 1 || lo 0) = true
          · rw [if_pos z1, if_pos z1]; exact ⟨_, rfl, rfl, hC0, rfl⟩
          · rw [if_neg z1, if_neg z1]
            by_cases z2 : fo 1 = fo 0
            · rw [if_pos z2, if_pos z2]
              by_cases z3 : (hB (si 1) q v && hB (si 0) u v) = true
              · rw [if_pos z3, if_pos z3]; exact ⟨_, rfl, rfl, ⟨hBd, ⟨h0.1, h0.2.1, h0.2.2.1, fun i hi => (cpy_eq h1.2.2.2 h0.2.2.2 (hAt z3) i hi).trans (congrFun (ix_s it 0 _).symm i)⟩, SC1_ix (by omega) h1, SC1_ix (by omega) h2, SC1_ix (by omega) h3⟩, rfl⟩
              · rw [if_neg z3, if_neg z3]; exact ⟨_, rfl, rfl, hC0, rfl⟩
            · rw [if_neg z2, if_neg z2]; exact ⟨_, rfl, rfl, hC0, rfl⟩
        · simp only [dI10, dI11, dI12, dI13, dI10, dI11, dI12, dI13, if_true, if_false]
          rw [copy6same _ _ _ b1.2 b1.1 h1]
          unfold bX6_copy_49 bX6_copy_97 fX6_finding
          rw [Option.bind_some, Option.bind_some]
          by_cases z1 : (lo 1 || lo 1) = true
          · rw [if_pos z1, if_pos z1]; exact ⟨_, rfl, rfl, hC0, rfl⟩
          · rw [if_neg z1, if_neg z1]
            by_cases z2 : fo 1 = fo 1
            · rw [if_pos z2]
              by_cases z3 : (hB (si 1) q v && hB (si 1) u v) = true
              · rw [if_pos z3, if_pos z3]; exact ⟨_, rfl, rfl, ⟨hBd, SC1_ix (by omega) h0, ⟨h1.1, h1.2.1, h1.2.2.1, fun i hi => (cpy_eq h1.2.2.2 h1.2.2.2 (hAt z3) i hi).trans (congrFun (ix_s it 1 _).symm i)⟩, SC1_ix (by omega) h2, SC1_ix (by omega) h3⟩, rfl⟩
              · rw [if_neg z3, if_neg z3]; exact ⟨_, rfl, rfl, hC0, rfl⟩
            · exact absurd rfl z2
        · simp only [dI10, dI11, dI12, dI13, dI20, dI21, dI22, dI23, if_true, if_false]
          rw [copy6core _ _ _ _ b1.2 b2.2 b1.1 b2.1 h1 h2]
          unfold bX6_copy_49 bX6_copy_97 fX6_finding
          rw [Option.bind_some, Option.bind_some, Option.bind_some]
          by_cases z1 : (lo 1 || lo 2) = true
          · rw [if_pos z1, if_pos z1]; exact ⟨_, rfl, rfl, hC0, rfl⟩
          · rw [if_neg z1, if_neg z1]
            by_cases z2 : fo 1 = fo 2
            · rw [if_pos z2, if_pos z2]
              by_cases z3 : (hB (si 1) q v && hB (si 2) u v) = true
              · rw [if_pos z3, if_pos z3]; exact ⟨_, rfl, rfl, ⟨hBd, SC1_ix (by omega) h0, SC1_ix (by omega) h1, ⟨h2.1, h2.2.1, h2.2.2.1, fun i hi => (cpy_eq h1.2.2.2 h2.2.2.2 (hAt z3) i hi).trans (congrFun (ix_s it 2 _).symm i)⟩, SC1_ix (by omega) h3⟩, rfl⟩
              · rw [if_neg z3, if_neg z3]; exact ⟨_, rfl, rfl, hC0, rfl⟩
            · rw [if_neg z2, if_neg z2]; exact ⟨_, rfl, rfl, hC0, rfl⟩
        · simp only [dI10, dI11, dI12, dI13, dI30, dI31, dI32, dI33, if_true, if_false]
          rw [copy6core _ _ _ _ b1.2 b3.2 b1.1 b3.1 h1 h3]
          unfold bX6_copy_49 bX6_copy_97 fX6_finding
          rw [Option.bind_some, Option.bind_some, Option.bind_some]
          by_cases z1 : (lo 1 || lo 3) = true
          · rw [if_pos z1, if_pos z1]; exact ⟨_, rfl, rfl, hC0, rfl⟩
          · rw [if_neg z1, if_neg z1]
            by_cases z2 : fo 1 = fo 3
            · rw [if_pos z2, if_pos z2]
              by_cases z3 : (hB (si 1) q v && hB (si 3) u v) = true
              · rw [if_pos z3, if_pos z3]; exact ⟨_, rfl, rfl, ⟨hBd, SC1_ix (by omega) h0, SC1_ix (by omega) h1, SC1_ix (by omega) h2, ⟨h3.1, h3.2.1, h3.2.2.1, fun i hi => (cpy_eq h1.2.2.2 h3.2.2.2 (hAt z3) i hi).trans (congrFun (ix_s it 3 _).symm i)⟩⟩, rfl⟩
              · rw [if_neg z3, if_neg z3]; exact ⟨_, rfl, rfl, hC0, rfl⟩
            · rw [if_neg z2, if_neg z2]; exact ⟨_, rfl, rfl, hC0, rfl⟩
      · rcases (show t = 0 ∨ t = 1 ∨ t = 2 ∨ t = 3 by omega) with e | e | e | e <;> subst e
        · simp only [dI20, dI21, dI22, dI23, dI00, dI01, dI02, dI03, if_true, if_false]
          rw [copy6core _ _ _ _ b2.2 b0.2 b2.1 b0.1 h2 h0]
          unfold bX6_copy_49 bX6_copy_97 fX6_finding
          rw [Option.bind_some, Option.bind_some, Option.bind_some]
          by_cases z1 : (lo 2 || lo 0) = true
          · rw [if_pos z1, if_pos z1]; exact ⟨_, rfl, rfl, hC0, rfl⟩
          · rw [if_neg z1, if_neg z1]
            by_cases z2 : fo 2 = fo 0
            · rw [if_pos z2, if_pos z2]
              by_cases z3 : (hB (si 2) q v && hB (si 0) u v) = true
              · rw [if_pos z3, if_pos z3]; exact ⟨_, rfl, rfl, ⟨hBd, ⟨h0.1, h0.2.1, h0.2.2.1, fun i hi => (cpy_eq h2.2.2.2 h0.2.2.2 (hAt z3) i hi).trans (congrFun (ix_s it 0 _).symm i)⟩, SC1_ix (by omega) h1, SC1_ix (by omega) h2, SC1_ix (by omega) h3⟩, rfl⟩
              · rw [if_neg z3, if_neg z3]; exact ⟨_, rfl, rfl, hC0, rfl⟩
            · rw [if_neg z2, if_neg z2]; exact ⟨_, rfl, rfl, hC0, rfl⟩
        · simp only [dI20, dI21, dI22, dI23, dI10, dI11, dI12, dI13, if_true, if_false]
          rw [copy6core _ _ _ _ b2.2 b1.2 b2.1 b1.1 h2 h1]
          unfold bX6_copy_49 bX6_copy_97 fX6_finding
          rw [Option.bind_some, Option.bind_some, Option.bind_some]
          by_cases z1 : (lo 2 || lo 1) = true
          · rw [if_pos z1, if_pos z1]; exact ⟨_, rfl, rfl, hC0, rfl⟩
          · rw [if_neg z1, if_neg z1]
            by_cases z2 : fo 2 = fo 1
            · rw [if_pos z2, if_pos z2]
              by_cases z3 : (hB (si 2) q v && hB (si 1) u v) = true
              · rw [if_pos z3, if_pos z3]; exact ⟨_, rfl, rfl, ⟨hBd, SC1_ix (by omega) h0, ⟨h1.1, h1.2.1, h1.2.2.1, fun i hi => (cpy_eq h2.2.2.2 h1.2.2.2 (hAt z3) i hi).trans (congrFun (ix_s it 1 _).symm i)⟩, SC1_ix (by omega) h2, SC1_ix (by omega) h3⟩, rfl⟩
              · rw [if_neg z3, if_neg z3]; exact ⟨_, rfl, rfl, hC0, rfl⟩
            · rw [if_neg z2, if_neg z2]; exact ⟨_, rfl, rfl, hC0, rfl⟩
        · simp only [dI20, dI21, dI22, dI23, dI20, dI21, dI22, dI23, if_true, if_false]
          rw [copy6same _ _ _ b2.2 b2.1 h2]
          unfold bX6_copy_49 bX6_copy_97 fX6_finding
          rw [Option.bind_some, Option.bind_some]
          by_cases z1 : (lo 2 || lo 2) = true
          · rw [if_pos z1, if_pos z1]; exact ⟨_, rfl, rfl, hC0, rfl⟩
          · rw [if_neg z1, if_neg z1]
            by_cases z2 : fo 2 = fo 2
            · rw [if_pos z2]
              by_cases z3 : (hB (si 2) q v && hB (si 2) u v) = true
              · rw [if_pos z3, if_pos z3]; exact ⟨_, rfl, rfl, ⟨hBd, SC1_ix (by omega) h0, SC1_ix (by omega) h1, ⟨h2.1, h2.2.1, h2.2.2.1, fun i hi => (cpy_eq h2.2.2.2 h2.2.2.2 (hAt z3) i hi).trans (congrFun (ix_s it 2 _).symm i)⟩, SC1_ix (by omega) h3⟩, rfl⟩
              · rw [if_neg z3, if_neg z3]; exact ⟨_, rfl, rfl, hC0, rfl⟩
            · exact absurd rfl z2
        · simp only [dI20, dI21, dI22, dI23, dI30, dI31, dI32, dI33, if_true, if_false]
          rw [copy6core _ _ _ _ b2.2 b3.2 b2.1 b3.1 h2 h3]
          unfold bX6_copy_49 bX6_copy_97 fX6_finding
          rw [Option.bind_some, Option.bind_some, Option.bind_some]
          by_cases z1 : (lo 2 || lo 3) = true
          · rw [if_pos z1, if_pos z1]; exact ⟨_, rfl, rfl, hC0, rfl⟩
          · rw [if_neg z1, if_neg z1]
            by_cases z2 : fo 2 = fo 3
            · rw [if_pos z2, if_pos z2]
              by_cases z3 : (hB (si 2) q v && hB (si 3) u v) = true
              · rw [if_pos z3, if_pos z3]; exact ⟨_, rfl, rfl, ⟨hBd, SC1_ix (by omega) h0, SC1_ix (by omega) h1, SC1_ix (by omega) h2, ⟨h3.1, h3.2.1, h3.2.2.1, fun i hi => (cpy_eq h2.2.2.2 h3.2.2.2 (hAt z3) i hi).trans (congrFun (ix_s it 3 _).symm i)⟩⟩, rfl⟩
              · rw [if_neg z3, if_neg z3]; exact ⟨_, rfl, rfl, hC0, rfl⟩
            · rw [if_neg z2, if_neg z2]; exact ⟨_, rfl, rfl, hC0, rfl⟩
      · rcases (show t = 0 ∨ t = 1 ∨ t = 2 ∨ t = 3 by omega) with e | e | e | e <;> subst e
        · simp only [dI30, dI31, dI32, dI33, dI00, dI01, dI02, dI03, if_true, if_false]
          rw [copy6core _ _ _ _ b3.2 b0.2 b3.1 b0.1 h3 h0]
          unfold bX6_copy_49 bX6_copy_97 fX6_finding
          rw [Option.bind_some, Option.bind_some, Option.bind_some]
          by_cases z1 : (lo 3 || lo 0) = true
          · rw [if_pos z1, if_pos z1]; exact ⟨_, rfl, rfl, hC0, rfl⟩
          · rw [if_neg z1, if_neg z1]
            by_cases z2 : fo 3 = fo 0
            · rw [if_pos z2, if_pos z2]
              by_cases z3 : (hB (si 3) q v && hB (si 0) u v) = true
              · rw [if_pos z3, if_pos z3]; exact ⟨_, rfl, rfl, ⟨hBd, ⟨h0.1, h0.2.1, h0.2.2.1, fun i hi => (cpy_eq h3.2.2.2 h0.2.2.2 (hAt z3) i hi).trans (congrFun (ix_s it 0 _).symm i)⟩, SC1_ix (by omega) h1, SC1_ix (by omega) h2, SC1_ix (by omega) h3⟩, rfl⟩
              · rw [if_neg z3, if_neg z3]; exact ⟨_, rfl, rfl, hC0, rfl⟩
            · rw [if_neg z2, if_neg z2]; exact ⟨_, rfl, rfl, hC0, rfl⟩
        · simp only [dI30, dI31, dI32, dI33, dI10, dI11, dI12, dI13, if_true, if_false]
          rw [copy6core _ _ _ _ b3.2 b1.2 b3.1 b1.1 h3 h1]
          unfold bX6_copy_49 bX6_copy_97 fX6_finding
          rw [Option.bind_some, Option.bind_some, Option.bind_some]
          by_cases z1 : (lo 3 || lo 1) = true
          · rw [if_pos z1, if_pos z1]; exact ⟨_, rfl, rfl, hC0, rfl⟩
          · rw [if_neg z1, if_neg z1]
            by_cases z2 : fo 3 = fo 1
            · rw [if_pos z2, if_pos z2]
              by_cases z3 : (hB (si 3) q v && hB (si 1) u v) = true
              · rw [if_pos z3, if_pos z3]; exact ⟨_, rfl, rfl, ⟨hBd, SC1_ix (by omega) h0, ⟨h1.1, h1.2.1, h1.2.2.1, fun i hi => (cpy_eq h3.2.2.2 h1.2.2.2 (hAt z3) i hi).trans (congrFun (ix_s it 1 _).symm i)⟩, SC1_ix (by omega) h2, SC1_ix (by omega) h3⟩, rfl⟩
              · rw [if_neg z3, if_neg z3]; exact ⟨_, rfl, rfl, hC0, rfl⟩
            · rw [if_neg z2, if_neg z2]; exact ⟨_, rfl, rfl, hC0, rfl⟩
        · simp only [dI30, dI31, dI32, dI33, dI20, dI21, dI22, dI23, if_true, if_false]
          rw [copy6core _ _ _ _ b3.2 b2.2 b3.1 b2.1 h3 h2]
          unfold bX6_copy_49 bX6_copy_97 fX6_finding
          rw [Option.bind_some, Option.bind_some, Option.bind_some]
          by_cases z1 : (lo 3 || lo 2) = true
          · rw [if_pos z1, if_pos z1]; exact ⟨_, rfl, rfl, hC0, rfl⟩
          · rw [if_neg z1, if_neg z1]
            by_cases z2 : fo 3 = fo 2
            · rw [if_pos z2, if_pos z2]
              by_cases z3 : (hB (si 3) q v && hB (si 2) u v) = true
              · rw [if_pos z3, if_pos z3]; exact ⟨_, rfl, rfl, ⟨hBd, SC1_ix (by omega) h0, SC1_ix (by omega) h1, ⟨h2.1, h2.2.1, h2.2.2.1, fun i hi => (cpy_eq h3.2.2.2 h2.2.2.2 (hAt z3) i hi).trans (congrFun (ix_s it 2 _).symm i)⟩, SC1_ix (by omega) h3⟩, rfl⟩
              · rw [if_neg z3, if_neg z3]; exact ⟨_, rfl, rfl, hC0, rfl⟩
            · rw [if_neg z2, if_neg z2]; exact ⟨_, rfl, rfl, hC0, rfl⟩
        · simp only [dI30, dI31, dI32, dI33, dI30, dI31, dI32, dI33, if_true, if_false]
          rw [copy6same _ _ _ b3.2 b3.1 h3]
          unfold bX6_copy_49 bX6_copy_97 fX6_finding
          rw [Option.bind_some, Option.bind_some]
          by_cases z1 : (lo 3 || lo 3) = true
          · rw [if_pos z1, if_pos z1]; exact ⟨_, rfl, rfl, hC0, rfl⟩
          · rw [if_neg z1, if_neg z1]
            by_cases z2 : fo 3 = fo 3
            · rw [if_pos z2]
              by_cases z3 : (hB (si 3) q v && hB (si 3) u v) = true
              · rw [if_pos z3, if_pos z3]; exact ⟨_, rfl, rfl, ⟨hBd, SC1_ix (by omega) h0, SC1_ix (by omega) h1, SC1_ix (by omega) h2, ⟨h3.1, h3.2.1, h3.2.2.1, fun i hi => (cpy_eq h3.2.2.2 h3.2.2.2 (hAt z3) i hi).trans (congrFun (ix_s it 3 _).symm i)⟩⟩, rfl⟩
              · rw [if_neg z3, if_neg z3]; exact ⟨_, rfl, rfl, hC0, rfl⟩
            · exact absurd rfl z2
    · rw [if_neg c2, if_pos i00, show coA lo fo si it fd p q r u v = (-2, it, fd) from if_neg (fun z => c2 z.2)]
      exact ⟨_, rfl, rfl, hC0, rfl⟩
  · rw [if_neg c1, if_pos i00, show coA lo fo si it fd p q r u v = (-2, it, fd) from if_neg (fun z => c1 z.1)]
    exact ⟨_, rfl, rfl, hC0, rfl⟩
theorem copy7loop (hN : 100 < N) (hM : ShM lo fo si it isThere forms sizes items) {s t a b m : Nat} (hs : s ≤ 3) (ht : t ≤ 3) (ha : a + m ≤ 48) (hb : b + m ≤ 48) : ∃ (i' m' : Nat → Int32), lp (bX7_copy_120 N isThere forms sizes (nI s) (nI a) (nI t) (nI b) (nI m) items fd) N (0, moved) = some (1, i', m', fd) ∧ ShM lo fo si (ix it t (va_cpy (it s) (it t) a b m)) isThere forms sizes i' := by
  have second : ∀ mv : Nat → Int32, (∀ k, k < m → mv k = items (48 * s + a + k)) → ∃ w, (∃ i' : Nat → Int32, w = some (1, i', mv, fd) ∧ (∀ k, k < m → i' (48 * t + b + k) = items (48 * s + a + k)) ∧ ∀ x, (x < 48 * t + b ∨ 48 * t + b + m ≤ x) → i' x = items x) ∧ lp (bX7_copy_157 N isThere forms sizes (nI s) (nI a) (nI t) (nI b) (nI m) mv fd) N (0, items) = w := by
    intro mv hmv
    refine lp_for (b := bX7_copy_157 N isThere forms sizes (nI s) (nI a) (nI t) (nI b) (nI m) mv fd) m (fun k st => ∃ i' : Nat → Int32, st = (nI k, i') ∧ (∀ j, j < k → i' (48 * t + b + j) = items (48 * s + a + j)) ∧ ∀ x, (x < 48 * t + b ∨ 48 * t + b + m ≤ x) → i' x = items x) _
      (fun k st hk hp => ?_) (fun st hp => ?_) (k := 0) (by omega) ⟨items, rfl, fun j hj => by omega, fun x _ => rfl⟩ (by omega)
    · obtain ⟨i', rfl, p1, p2⟩ := hp
      left
      refine ⟨_, ⟨upd i' (48 * t + b + k) (mv k), rfl, fun j hj => ?_, fun x hx => ?_⟩, fun κ => ?_⟩
      · unfold upd
        by_cases c : j = k
        · rw [if_pos (by omega), c, hmv k hk]
        · rw [if_neg (by omega)]; exact p1 j (by omega)
      · unfold upd
        rw [if_neg (by omega)]; exact p2 x hx
      · unfold bX7_copy_157
        simp only
        rw [if_neg (by rw [nI_leI (by omega) (by omega)]; omega), if_pos (chk_nI (by omega) (by omega)), li48, pk_mul, nI_add, nI_add, if_pos (chk_nI (by omega) (by omega)), nI_clamp (by omega), nI_clamp (by omega), nI_1]
    · obtain ⟨i', rfl, p1, p2⟩ := hp
      refine ⟨_, ⟨i', rfl, p1, p2⟩, fun κ => ?_⟩
      unfold bX7_copy_157
      simp only
      rw [if_pos (by rw [nI_leI (by omega) (by omega)]; omega)]
  obtain ⟨w, hw, e⟩ := lp_for (b := bX7_copy_120 N isThere forms sizes (nI s) (nI a) (nI t) (nI b) (nI m) items fd) m (fun k st => ∃ mv : Nat → Int32, st = (nI k, mv) ∧ ∀ j, j < k → mv j = items (48 * s + a + j)) (fun w => ∃ (i' m' : Nat → Int32), w = some (1, i', m', fd) ∧ ShM lo fo si (ix it t (va_cpy (it s) (it t) a b m)) isThere forms sizes i')
    (fun k st hk hp => by
      obtain ⟨mv, rfl, p1⟩ := hp
      left
      refine ⟨_, ⟨upd mv k (items (48 * s + a + k)), rfl, fun j hj => ?_⟩, fun κ => ?_⟩
      · unfold upd
        by_cases c : j = k
        · rw [if_pos c, c]
        · rw [if_neg c]; exact p1 j (by omega)
      · unfold bX7_copy_120 nm
        simp only
        rw [if_neg (by rw [nI_leI (by omega) (by omega)]; omega), li48, pk_mul, nI_add, nI_add, if_pos (chk_nI (by omega) (by omega)), if_pos (chk_nI (by omega) (by omega)), nI_clamp (by omega), nI_clamp (by omega), nI_1])
    (fun st hp => by
      obtain ⟨mv, rfl, p1⟩ := hp
      obtain ⟨w, ⟨i', a1, a2, a3⟩, e⟩ := second mv p1
      refine ⟨w, ⟨i', mv, a1, hM.1, fun x hx => ?_⟩, fun κ => ?_⟩
      · obtain ⟨m1, m2, m3, m4⟩ := hM.2 x hx
        refine ⟨m1, m2, m3, fun i hi => ?_⟩
        by_cases c : x = t
        · subst c
          rw [ix_s]
          by_cases d : b ≤ i ∧ i < b + m
          · rw [pk_cpy_in d.1 d.2]
            have z := a2 (i - b) (by omega)
            rw [show 48 * x + b + (i - b) = 48 * x + i by omega] at z
            rw [z, show 48 * s + a + (i - b) = 48 * s + (a + (i - b)) by omega]
            exact (hM.2 s (by omega)).2.2.2 _ (by omega)
          · rw [pk_cpy_out (by omega), a3 _ (by omega)]; exact m4 i hi
        · rw [ix_o c, a3 _ (by omega)]; exact m4 i hi
      · unfold bX7_copy_120
        simp only
        rw [if_pos (by rw [nI_leI (by omega) (by omega)]; omega)]
        exact e)
    (k := 0) (s := (0, moved)) (N := N) (by omega) ⟨moved, rfl, fun j hj => by omega⟩ (by omega)
  obtain ⟨i', m', a1, a2⟩ := hw
  exact ⟨i', m', by rw [e, a1], a2⟩
theorem copy7 (hN : 100 < N) (hM : ShM lo fo si it isThere forms sizes items) (p q r u v : Int32) : ∃ S, fX7_copy N isThere forms sizes items moved fd p q r u v = some S ∧ S.1 = (coA lo fo si it fd p q r u v).1 ∧ ShM lo fo si (coA lo fo si it fd p q r u v).2.1 isThere forms sizes S.2.1 ∧ S.2.2.2 = (coA lo fo si it fd p q r u v).2.2 := by
  unfold fX7_copy
  rw [isSheet7_eq, Option.bind_some]
  by_cases c1 : 0 ≤ p ∧ p ≤ 3
  · rw [if_pos c1, if_neg i10, isSheet7_eq, Option.bind_some]
    by_cases c2 : 0 ≤ r ∧ r ≤ 3
    · rw [if_pos c2, if_neg i10]
      obtain ⟨s, s1, rfl⟩ := ncase (m := 3) (by decide) c1
      obtain ⟨t, t1, rfl⟩ := ncase (m := 3) (by decide) c2
      have hA : coA lo fo si it fd (nI s) q (nI t) u v = (if (lo s || lo t) = true then ((-10 : Int32) - 1, it, 1) else if fo s = fo t then (if (hB (si s) q v && hB (si t) u v) = true then (1, ix it t (va_cpy (it s) (it t) (Int32.toNatClampNeg q) (Int32.toNatClampNeg u) (Int32.toNatClampNeg v)), fd) else ((-10 : Int32) - 2, it, 2)) else ((-10 : Int32) - 4, it, 4)) := by
        unfold coA
        rw [nI_clamp (show s < 2 ^ 31 by omega), nI_clamp (show t < 2 ^ 31 by omega)]
        exact if_pos ⟨c1, c2⟩
      obtain ⟨m1, m2, m3, m4⟩ := hM.2 s (by omega)
      obtain ⟨n1, n2, n3, n4⟩ := hM.2 t (by omega)
      have bs := hM.1 s (by omega)
      have bt := hM.1 t (by omega)
      unfold bX7_copy_35 bX7_copy_111 fX7_meets
      rw [hA, chk_nI (show s < 4 by omega) (by omega), chk_nI (show t < 4 by omega) (by omega), nI_clamp (show s < 2 ^ 31 by omega), nI_clamp (show t < 2 ^ 31 by omega), m1, m2, m3, n1, n2, n3]
      simp only [if_true, Option.bind_some]
      cases ql : lo s with
      | true => exact ⟨_, rfl, rfl, hM, rfl⟩
      | false =>
        cases qt : lo t with
        | true => exact ⟨_, rfl, rfl, hM, rfl⟩
        | false =>
          rw [if_neg (show ¬ bI (!false) = 0 by decide), if_neg (show ¬ bI (!false) = 0 by decide), if_neg (show ¬ (false || false) = true by decide)]
          by_cases c : fo s = fo t
          · rw [if_pos (show nI (fo s) = nI (fo t) by rw [c]), if_pos c]
            by_cases z : (hB (si s) q v && hB (si t) u v) = true
            · rw [if_pos z]
              rw [Bool.and_eq_true] at z
              obtain ⟨a, m, rfl, rfl, b1, b2, b3⟩ := hB_nat z.1
              obtain ⟨b, m', rfl, e, b4, b5, b6⟩ := hB_nat z.2
              have em := (nI_eq b3 b6).mp e
              subst em
              obtain ⟨i', mv, l1, l2⟩ := copy7loop (N := N) (moved := moved) (fd := fd) hN hM s1 t1 (show a + m ≤ 48 by omega) (show b + m ≤ 48 by omega)
              rw [if_neg (nI_pos b2), if_neg (nI_pos b5), if_neg (nI_pos b3), nI_l b2, nI_l b3, nI_l b5, nI_l (by omega), nI_l (by omega), lN_add, lN_add, if_neg (by rw [cmp_gt (by omega) (by omega)]; omega), if_pos (by rw [cmp_le (by omega) (by omega)]; omega), l1, nI_clamp b2, nI_clamp b3, nI_clamp b5]
              exact ⟨_, rfl, rfl, l2, rfl⟩
            · rw [if_neg z]
              by_cases d1 : q < 0
              · rw [if_pos d1]; exact ⟨_, rfl, rfl, hM, rfl⟩
              · rw [if_neg d1]
                by_cases d2 : u < 0
                · rw [if_pos d2]; exact ⟨_, rfl, rfl, hM, rfl⟩
                · rw [if_neg d2]
                  by_cases d3 : v < 0
                  · rw [if_pos d3]; exact ⟨_, rfl, rfl, hM, rfl⟩
                  · rw [if_neg d3]
                    rw [lt0] at d1 d2 d3
                    obtain ⟨a, a1, rfl⟩ := nn_of (show 0 ≤ q.toInt by omega)
                    obtain ⟨b, b1, rfl⟩ := nn_of (show 0 ≤ u.toInt by omega)
                    obtain ⟨m, mm1, rfl⟩ := nn_of (show 0 ≤ v.toInt by omega)
                    have hz : ¬ (a + m ≤ si s ∧ b + m ≤ si t) := by
                      intro w
                      apply z
                      rw [Bool.and_eq_true, hB_iff, hB_iff, nI_toInt a1, nI_toInt b1, nI_toInt mm1]
                      omega
                    rw [nI_l a1, nI_l b1, nI_l mm1, nI_l (by omega), nI_l (by omega), lN_add, lN_add]
                    by_cases d4 : si s < a + m
                    · rw [if_pos (by rw [cmp_gt (by omega) (by omega)]; exact d4)]; exact ⟨_, rfl, rfl, hM, rfl⟩
                    · rw [if_neg (by rw [cmp_gt (by omega) (by omega)]; exact d4), if_neg (by rw [cmp_le (by omega) (by omega)]; omega)]; exact ⟨_, rfl, rfl, hM, rfl⟩
          · rw [if_neg (show ¬ nI (fo s) = nI (fo t) by rw [nI_eq (by omega) (by omega)]; exact c), if_neg c]
            exact ⟨_, rfl, rfl, hM, rfl⟩
    · rw [if_neg c2, if_pos i00, show coA lo fo si it fd p q r u v = (-2, it, fd) from if_neg (fun z => c2 z.2)]
      exact ⟨_, rfl, rfl, hM, rfl⟩
  · rw [if_neg c1, if_pos i00, show coA lo fo si it fd p q r u v = (-2, it, fd) from if_neg (fun z => c1 z.1)]
    exact ⟨_, rfl, rfl, hM, rfl⟩
end CO

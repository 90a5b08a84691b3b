/-! ===== told: those not named go anywhere; when there is an order ===== -/
def prd (a : Nat) : Nat → Nat
  | 0 => 1
  | f + 1 => if a ≤ f then prd a f * (f + 1) else 1
theorem prd_e {a f : Nat} (h : f ≤ a) : prd a f = 1 := by
  cases f with
  | zero => rfl
  | succ f => rw [prd, if_neg (by omega)]
theorem prd_s {a : Nat} : ∀ {f : Nat}, a + 1 ≤ f → prd a f = (a + 1) * prd (a + 1) f
  | 0, h => by omega
  | f + 1, h => by
    rw [prd, if_pos (by omega), prd]
    by_cases c : a + 1 ≤ f
    · rw [if_pos c, prd_s c, Nat.mul_assoc]
    · rw [if_neg c, prd_e (by omega), show f = a by omega, Nat.one_mul, Nat.mul_one]
section PF
variable {pre : Nat → Nat → Bool} {Nm : Nat → Bool}
theorem Wo_free (hp : ∀ x g, pre x g = true → Nm x = true ∧ Nm g = true) : ∀ {f : Nat} {S : Nat → Bool}, cnt S 10 = f → Wo pre f S = Wo pre (cnt (fun x => S x && Nm x) 10) (fun x => S x && Nm x) * prd (cnt (fun x => S x && Nm x) 10) f
  | 0, S, h => by
    have h0 : cnt (fun x => S x && Nm x) 10 = 0 := by
      have := cnt_mono (S := fun x => S x && Nm x) (T := S) (m := 10) (fun g _ hg => by rw [Bool.and_eq_true] at hg; exact hg.1)
      omega
    rw [h0]; rfl
  | f + 1, S, h => by
    obtain ⟨A, hA⟩ : ∃ A : Nat → Bool, A = fun x => S x && Nm x := ⟨_, rfl⟩
    obtain ⟨c, hc⟩ : ∃ c, c = cnt A 10 := ⟨_, rfl⟩
    rw [← hA, ← hc]
    have hAS : ∀ g, g < 10 → A g = true → S g = true := fun g _ hg => by rw [hA] at hg; simp only [Bool.and_eq_true] at hg; exact hg.1
    have hcf : c ≤ f + 1 := by rw [hc, ← h]; exact cnt_mono hAS
    by_cases e : c = f + 1
    · have hs := cnt_same hAS (by omega)
      rw [e, prd_e (Nat.le_refl _), Nat.mul_one]
      exact Wo_congr (fun x hx => (hs x hx).symm)
    · have hfree := cnt_split S A 10 hAS
      rw [h, ← hc] at hfree
      -- each term
      have term : ∀ g, g < 10 → (if S g && okp pre (rmv S g) g then Wo pre f (rmv S g) else 0) = (if A g && okp pre (rmv A g) g then Wo pre (c - 1) (rmv A g) else 0) * prd (c - 1) f + (if (fun x => S x && !A x) g then Wo pre c A * prd c f else 0) := by
        intro g hg
        cases q : S g with
        | false =>
          have : A g = false := by rw [hA]; simp [q]
          simp [this, q]
        | true =>
          have hr := cnt_rmv hg q
          have ih := Wo_free hp (f := f) (S := rmv S g) (by omega)
          cases qn : Nm g with
          | true =>
            have qa : A g = true := by rw [hA]; simp [q, qn]
            have hra := cnt_rmv hg qa
            have ec : ∀ x, (rmv S g x && Nm x) = rmv A g x := by
              intro x
              rw [hA]
              show ((S x && !(x == g)) && Nm x) = ((S x && Nm x) && !(x == g))
              cases S x <;> cases Nm x <;> cases (x == g) <;> rfl
            have ef : (fun x => rmv S g x && Nm x) = rmv A g := funext ec
            rw [ef, show cnt (rmv A g) 10 = c - 1 by omega] at ih
            have eo : okp pre (rmv S g) g = okp pre (rmv A g) g := by
              rw [Bool.eq_iff_iff, okp_iff, okp_iff]
              constructor
              · intro z x hx hpx
                have z1 := z x hx hpx
                rw [← ec x, z1, (hp x g hpx).1]; rfl
              · intro z x hx hpx
                have z1 := z x hx hpx
                rw [← ec x, Bool.and_eq_true] at z1
                exact z1.1
            simp only [Bool.true_and, qa, q]
            rw [eo, ih]
            simp
            split <;> simp
          | false =>
            have qa : A g = false := by rw [hA]; simp [qn]
            have ef : (fun x => rmv S g x && Nm x) = A := by
              funext x; rw [hA]; unfold rmv
              by_cases d : x = g
              · subst d; simp [qn]
              · show ((S x && !(x == g)) && Nm x) = (S x && Nm x)
                rw [beq_false_of_ne d, Bool.not_false, Bool.and_true]
            rw [ef, ← hc] at ih
            have eo : okp pre (rmv S g) g = true := by
              rw [okp_iff]
              intro x _ hpx
              have := (hp x g hpx).2
              rw [qn] at this; cases this
            simp only [Bool.true_and, qa, q, eo, if_true]
            rw [ih]
            simp
      rw [Wo, sg_congr term, sg_lin (fun g => if A g && okp pre (rmv A g) g then Wo pre (c - 1) (rmv A g) else 0)]
      have key : sg (fun g => if A g && okp pre (rmv A g) g then Wo pre (c - 1) (rmv A g) else 0) 10 * prd (c - 1) f = c * (Wo pre c A * prd c f) := by
        cases hcc : c with
        | zero =>
          have z : sg (fun g => if A g && okp pre (rmv A g) g then Wo pre (0 - 1) (rmv A g) else 0) 10 = 0 := by
            rcases Nat.eq_zero_or_pos (sg (fun g => if A g && okp pre (rmv A g) g then Wo pre (0 - 1) (rmv A g) else 0) 10) with z | z
            · exact z
            · obtain ⟨i, i1, i2⟩ := sg_ex (show sg (fun g => if A g && okp pre (rmv A g) g then Wo pre (0 - 1) (rmv A g) else 0) 10 ≠ 0 by omega)
              cases q : A i with
              | true => have := cnt_rmv i1 q; omega
              | false => simp [q] at i2
          rw [z, Nat.zero_mul, Nat.zero_mul]
        | succ c' =>
          have e1 : sg (fun g => if A g && okp pre (rmv A g) g then Wo pre (c' + 1 - 1) (rmv A g) else 0) 10 = Wo pre (c' + 1) A := by rw [Wo]; rfl
          rw [e1, show c' + 1 - 1 = c' from rfl, prd_s (show c' + 1 ≤ f by omega)]
          rw [← Nat.mul_assoc, ← Nat.mul_assoc, Nat.mul_comm (Wo pre (c' + 1) A)]
      rw [key, ← Nat.add_mul, show c + cnt (fun x => S x && !A x) 10 = f + 1 by omega, prd, if_pos (by omega), Nat.mul_comm (f + 1), Nat.mul_assoc]
end PF
theorem argmax {F : Nat → Nat} {S : Nat → Bool} : ∀ {k : Nat}, (∃ g, g < k ∧ S g = true) → ∃ g, g < k ∧ S g = true ∧ ∀ x, x < k → S x = true → F x ≤ F g
  | 0, ⟨g, h, _⟩ => by omega
  | k + 1, ⟨g, h1, h2⟩ => by
    by_cases e : ∃ g, g < k ∧ S g = true
    · obtain ⟨m, m1, m2, m3⟩ := argmax (F := F) e
      by_cases c : S k = true ∧ F m < F k
      · refine ⟨k, by omega, c.1, fun x hx hs => ?_⟩
        by_cases d : x = k
        · rw [d]; exact Nat.le_refl _
        · have := m3 x (by omega) hs; omega
      · refine ⟨m, by omega, m2, fun x hx hs => ?_⟩
        by_cases d : x = k
        · rw [d] at hs ⊢
          rcases Nat.lt_or_ge (F m) (F k) with z | z
          · exact absurd ⟨hs, z⟩ c
          · exact z
        · exact m3 x (by omega) hs
    · have hg : g = k := by
        rcases Nat.lt_or_ge g k with z | z
        · exact absurd ⟨g, z, h2⟩ e
        · omega
      subst hg
      refine ⟨g, by omega, h2, fun x hx hs => ?_⟩
      by_cases d : x = g
      · rw [d]; exact Nat.le_refl _
      · exact absurd ⟨x, by omega, hs⟩ e
theorem cnt_lt2 {S T : Nat → Bool} {m g : Nat} (h : ∀ x, x < m → S x = true → T x = true) (hg : g < m) (h1 : S g = false) (h2 : T g = true) : cnt S m < cnt T m := by
  rcases Nat.lt_or_ge (cnt S m) (cnt T m) with c | c
  · exact c
  · have := cnt_same h c g hg
    rw [h1, h2] at this; cases this
/-- without a ring there is an order -/
theorem Wo_ex {pre : Nat → Nat → Bool} (ht : ∀ x y z, pre x y = true → pre y z = true → pre x z = true) (hi : ∀ x, x < 10 → pre x x = false) : ∀ {f : Nat} {S : Nat → Bool}, cnt S 10 = f → dcl pre S → Wo pre f S ≠ 0
  | 0, _, _, _ => by rw [Wo]; omega
  | f + 1, S, hc, hd => by
    obtain ⟨g, g1, g2, g3⟩ := argmax (F := fun g => cnt (fun x => S x && pre x g) 10) (cnt_pos (S := S) (m := 10) (by omega))
    have top : ∀ y, y < 10 → S y = true → pre g y = false := by
      intro y hy hs
      cases q : pre g y with
      | false => rfl
      | true =>
        have h1 := g3 y hy hs
        have h2 : cnt (fun x => S x && pre x g) 10 < cnt (fun x => S x && pre x y) 10 := cnt_lt2 (g := g) (fun x _ hx => by
          rw [Bool.and_eq_true] at hx
          rw [hx.1, ht x g y hx.2 q]; rfl) g1 (by rw [hi g g1, Bool.and_false]) (by rw [g2, q]; rfl)
        omega
    have hr := cnt_rmv g1 g2
    have ih := Wo_ex ht hi (f := f) (S := rmv S g) (by omega) (by
      intro x y hx hy hp hs
      unfold rmv at hs ⊢
      rw [Bool.and_eq_true] at hs ⊢
      refine ⟨hd x y hx hy hp hs.1, ?_⟩
      by_cases e : x = g
      · rw [e, top y hy hs.1] at hp; cases hp
      · simp [e])
    have ok : okp pre (rmv S g) g = true := by
      rw [okp_iff]
      intro x hx hp
      unfold rmv
      rw [hd x g hx g1 hp g2]
      by_cases e : x = g
      · rw [e, hi g g1] at hp; cases hp
      · simp [e]
    have := sg_ge (F := fun g => if S g && okp pre (rmv S g) g then Wo pre f (rmv S g) else 0) (k := 10) g1
    simp only [g2, ok, Bool.and_self, if_true] at this
    rw [Wo]
    omega
section FO
variable (ea eb : Nat → Nat) (h : Nat)
def nmIn (G : Nat → Bool) : Bool := alw (fun x => !(nmd ea eb h x) || G x) 10
def hO (G : Nat → Bool) : Bool := nmIn ea eb h G && alw (fun g => !(tP ea eb h g g)) 10
def fO (G : Nat → Bool) : Nat := if nmIn ea eb h G then Wo (eP ea eb h) (cnt G 10) G else 0
end FO
/-- what is told: guests, no one of itself, 8 at most -/
def OK8 (h : Nat) (ea eb : Nat → Nat) : Prop := h ≤ 9 ∧ ∀ i, i < h → ea i < 10 ∧ eb i < 10 ∧ ea i ≠ eb i
section FP
variable {ea eb : Nat → Nat} {h : Nat} {G : Nat → Bool}
theorem nmIn_iff : nmIn ea eb h G = true ↔ ∀ x, x < 10 → nmd ea eb h x = true → G x = true := by
  unfold nmIn
  rw [alw_iff]
  constructor
  · intro z x hx hn
    have := z x hx
    rw [hn] at this; simpa using this
  · intro z x hx
    cases q : nmd ea eb h x with
    | false => rfl
    | true => simp [z x hx q]
theorem eP_nm {x g : Nat} (z : eP ea eb h x g = true) : nmd ea eb h x = true ∧ nmd ea eb h g = true := by
  obtain ⟨i, h1, h2, h3⟩ := eP_iff.mp z
  exact ⟨nmd_iff.mpr ⟨i, h1, Or.inl h2⟩, nmd_iff.mpr ⟨i, h1, Or.inr h3⟩⟩
theorem hO_fO (hk : OK8 h ea eb) : hO ea eb h G = true ↔ fO ea eb h G ≠ 0 := by
  have hb : ∀ i, i < h → ea i < 10 ∧ eb i < 10 := fun i hi => ⟨(hk.2 i hi).1, (hk.2 i hi).2.1⟩
  unfold hO fO
  cases q : nmIn ea eb h G with
  | false => simp
  | true =>
    rw [Bool.true_and, if_pos rfl, Wo_et hb rfl]
    have hn := nmIn_iff.mp q
    have hlast : ∀ x g, tP ea eb h x g = true → g < 10 ∧ G g = true := fun x g z => by
      obtain ⟨i, h1, h2⟩ := tP_last z
      rw [h2]
      exact ⟨(hb i h1).2, hn _ (hb i h1).2 (nmd_iff.mpr ⟨i, h1, Or.inr rfl⟩)⟩
    constructor
    · intro z
      have hi : ∀ x, x < 10 → tP ea eb h x x = false := fun x hx => by
        have := alw_iff.mp z x hx
        simpa using this
      refine Wo_ex (pre := tP ea eb h) (fun x y z => tP_trans) hi rfl ?_
      intro x g hx hg hp hs
      have hd : dcl (eP ea eb h) G := fun x g hx _ hp _ => hn x hx (eP_nm hp).1
      exact tP_dcl hb hd x g hp hs
    · intro z
      rw [alw_iff]
      intro g hg
      cases qg : tP ea eb h g g with
      | false => rfl
      | true =>
        have := Wo_irr rfl z g hg (hlast g g qg).2
        rw [qg] at this; cases this
theorem fO_class (hk : OK8 h ea eb) : fO ea eb h G = if hO ea eb h G then Wo (tP ea eb h) (cnt (nmd ea eb h) 10) (nmd ea eb h) * prd (cnt (nmd ea eb h) 10) (cnt G 10) else 0 := by
  have hb : ∀ i, i < h → ea i < 10 ∧ eb i < 10 := fun i hi => ⟨(hk.2 i hi).1, (hk.2 i hi).2.1⟩
  cases q : hO ea eb h G with
  | false =>
    rw [if_neg (by decide)]
    rcases Nat.eq_zero_or_pos (fO ea eb h G) with z | z
    · exact z
    · have := (hO_fO (G := G) hk).mpr (by omega)
      rw [q] at this; cases this
  | true =>
    rw [if_pos rfl]
    have q1 : nmIn ea eb h G = true := by unfold hO at q; rw [Bool.and_eq_true] at q; exact q.1
    have hn := nmIn_iff.mp q1
    unfold fO
    rw [if_pos q1, Wo_free (pre := eP ea eb h) (Nm := nmd ea eb h) (fun x g => eP_nm) rfl]
    have e : ∀ x, x < 10 → (G x && nmd ea eb h x) = nmd ea eb h x := fun x hx => by
      cases z : nmd ea eb h x with
      | false => simp
      | true => rw [hn x hx z]; rfl
    rw [cnt_congr e, Wo_congr e, Wo_et hb rfl]
theorem fO_le : fO ea eb h G ≤ 3628800 := by
  unfold fO
  split
  · exact Wo_10
  · exact Nat.zero_le _
theorem nmd_congr {ea' eb' : Nat → Nat} : ∀ {k : Nat}, (∀ i, i < k → ea i = ea' i ∧ eb i = eb' i) → ∀ x, nmd ea eb k x = nmd ea' eb' k x
  | 0, _, _ => rfl
  | k + 1, z, x => by rw [nmd, nmd, nmd_congr (fun i hi => z i (by omega)), (z k (by omega)).1, (z k (by omega)).2]
theorem tP_congr {ea' eb' : Nat → Nat} : ∀ {k : Nat}, (∀ i, i < k → ea i = ea' i ∧ eb i = eb' i) → ∀ x g, tP ea eb k x g = tP ea' eb' k x g
  | 0, _, _, _ => rfl
  | k + 1, z, x, g => by
    have ih := tP_congr (fun i (hi : i < k) => z i (by omega))
    rw [tP, tP, ih, ih, ih, (z k (by omega)).1, (z k (by omega)).2]
theorem hO_congr {ea' eb' : Nat → Nat} (z : ∀ i, i < h → ea i = ea' i ∧ eb i = eb' i) : hO ea eb h G = hO ea' eb' h G := by
  unfold hO nmIn
  rw [alw_congr (fun x _ => by rw [nmd_congr z x]), alw_congr (Q := fun g => !(tP ea eb h g g)) (fun g _ => by rw [tP_congr z g g])]
/-- one more told, the other way about -/
theorem hO_more {a b : Nat} (ha : a < 10) (hab : a ≠ b) (hga : G a = true) (hgb : G b = true) (e1 : ea h = b) (e2 : eb h = a) (ho : hO ea eb h G = true) : hO ea eb (h + 1) G = !(tP ea eb h a b) := by
  have ho' := ho
  unfold hO at ho
  rw [Bool.and_eq_true] at ho
  have hn := nmIn_iff.mp ho.1
  have hi : ∀ x, x < 10 → tP ea eb h x x = false := fun x hx => by
    have := alw_iff.mp ho.2 x hx
    simpa using this
  have n1 : nmIn ea eb (h + 1) G = true := by
    rw [nmIn_iff]
    intro x hx z
    rw [nmd, Bool.or_eq_true, Bool.or_eq_true, beq_iff_eq, beq_iff_eq, e1, e2] at z
    rcases z with z | z | z
    · exact hn x hx z
    · rw [z]; exact hgb
    · rw [z]; exact hga
  unfold hO
  rw [n1, Bool.true_and]
  cases q : tP ea eb h a b with
  | true =>
    show alw _ 10 = false
    cases z : alw (fun g => !(tP ea eb (h + 1) g g)) 10 with
    | false => rfl
    | true =>
      have := alw_iff.mp z a ha
      have t : tP ea eb (h + 1) a a = true := by rw [tP_s, e1, e2]; exact Or.inr ⟨Or.inr q, Or.inl rfl⟩
      rw [t] at this; cases this
  | false =>
    show alw _ 10 = true
    rw [alw_iff]
    intro x hx
    cases z : tP ea eb (h + 1) x x with
    | false => rfl
    | true =>
      rw [tP_s, hi x hx, e1, e2] at z
      rcases z with z | ⟨z1, z2⟩
      · cases z
      · have t : tP ea eb h a b = true := by
          rcases z1 with z1 | z1
          · rcases z2 with z2 | z2
            · exact absurd (z2.symm.trans z1) hab
            · rw [← z1]; exact z2
          · rcases z2 with z2 | z2
            · rw [← z2]; exact z1
            · exact tP_trans z2 z1
        rw [q] at t; cases t
end FP

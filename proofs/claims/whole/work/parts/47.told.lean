/-! ===== told: class ===== -/
def RO (h : Nat) (ea eb : Nat → Nat) (many : Int32) (ah : Nat → Int32) (named : Int32) : Prop := many = nI h ∧ (∀ g, g < 10 → ah g = M (fun x => tP ea eb h x g)) ∧ named = M (nmd ea eb h)
theorem tell_eq {N h a b : Nat} {ea eb : Nat → Nat} {many named : Int32} {ah : Nat → Int32} (hN : 20 < N) (hR : RO h ea eb many ah named) (ha : a < 10) (hb : b < 10) (e1 : ea h = a) (e2 : eb h = b) : ∃ ah' : Nat → Int32, fX5_tell N many ah named (nI a) (nI b) = some (nI (h + 1), ah', M (nmd ea eb (h + 1))) ∧ RO (h + 1) ea eb (nI (h + 1)) ah' (M (nmd ea eb (h + 1))) := by
  obtain ⟨rfl, r2, rfl⟩ := hR
  unfold fX5_tell
  rw [bit_in ha, Option.bind_some, bit_in hb, Option.bind_some, if_pos (chk_nI ha (by omega)), Option.bind_some, nI_clamp (by omega), r2 a ha, M_or, M_or, M_or, nI_1]
  have en : M (fun g => nmd ea eb h g || (g == a || g == b)) = M (nmd ea eb (h + 1)) := M_congr (fun x _ => by rw [nmd, e1, e2])
  rw [en]
  obtain ⟨z, hz, e⟩ := lp_for (b := bX5_tell_43 N (nI a) (nI b) (M fun g => tP ea eb h g a || g == a) (nI (h + 1)) (M (nmd ea eb (h + 1)))) 10 (fun k s => ∃ ah' : Nat → Int32, s = (nI k, ah') ∧ (∀ g, g < 10 → k ≤ g → ah' g = M (fun x => tP ea eb h x g)) ∧ ∀ g, g < k → ah' g = M (fun x => tP ea eb (h + 1) x g)) (fun z => ∃ ah' : Nat → Int32, z = some (nI (h + 1), ah', M (nmd ea eb (h + 1))) ∧ ∀ g, g < 10 → ah' g = M (fun x => tP ea eb (h + 1) x g))
    (fun g s hg hp => by
      obtain ⟨ah', rfl, p1, p2⟩ := hp
      left
      have hag := p1 g hg (Nat.le_refl _)
      have upk : ∀ v : Int32, v = M (fun x => tP ea eb (h + 1) x g) → (∀ x, x < 10 → g + 1 ≤ x → upd ah' g v x = M (fun y => tP ea eb h y x)) ∧ ∀ x, x < g + 1 → upd ah' g v x = M (fun y => tP ea eb (h + 1) y x) := by
        intro v hv
        refine ⟨fun x hx hgx => ?_, fun x hx => ?_⟩
        · unfold upd
          rw [if_neg (by omega)]; exact p1 x hx (by omega)
        · unfold upd
          by_cases c : x = g
          · rw [if_pos c, hv, c]
          · rw [if_neg c]; exact p2 x (by omega)
      have yes : (g == b || tP ea eb h b g) = true → M (fun x => tP ea eb h x g) ||| M (fun x => tP ea eb h x a || x == a) = M (fun x => tP ea eb (h + 1) x g) := by
        intro z
        rw [M_or]
        refine M_congr (fun x _ => ?_)
        rw [tP, e1, e2, z, Bool.and_true, Bool.or_comm (x == a)]
      by_cases c : g = b
      · have z : (g == b || tP ea eb h b g) = true := by rw [c]; simp
        refine ⟨_, ⟨upd ah' g (M (fun x => tP ea eb (h + 1) x g)), rfl, upk _ rfl⟩, fun κ => ?_⟩
        unfold bX5_tell_43 bX5_tell_70 bX5_tell_81
        simp only
        rw [if_neg (by rw [li10, nI_leI (by omega) (by omega)]; omega), if_pos (by rw [c]), if_pos (chk_nI hg (by omega)), if_pos (chk_nI hg (by omega)), nI_clamp (by omega), hag, yes z, nI_1]
      · cases q : tP ea eb h b g with
        | true =>
          have z : (g == b || tP ea eb h b g) = true := by rw [q]; simp
          refine ⟨_, ⟨upd ah' g (M (fun x => tP ea eb (h + 1) x g)), rfl, upk _ rfl⟩, fun κ => ?_⟩
          unfold bX5_tell_43 bX5_tell_70 bX5_tell_81
          simp only
          rw [if_neg (by rw [li10, nI_leI (by omega) (by omega)]; omega), if_neg (by rw [nI_eq (by omega) (by omega)]; exact c), if_pos (chk_nI hg (by omega)), if_pos (chk_nI hg (by omega)), nI_clamp (by omega), hag, has_M hb, Option.bind_some, if_pos q, if_neg (by decide), if_pos (chk_nI hg (by omega)), yes z, nI_1]
        | false =>
          refine ⟨_, ⟨ah', rfl, fun x hx hgx => p1 x hx (by omega), fun x hx => ?_⟩, fun κ => ?_⟩
          · by_cases d : x = g
            · rw [d, hag]
              refine M_congr (fun y _ => ?_)
              rw [tP, e1, e2, q, beq_false_of_ne c]; simp
            · exact p2 x (by omega)
          · unfold bX5_tell_43 bX5_tell_81
            simp only
            rw [if_neg (by rw [li10, nI_leI (by omega) (by omega)]; omega), if_neg (by rw [nI_eq (by omega) (by omega)]; exact c), if_pos (chk_nI hg (by omega)), nI_clamp (by omega), hag, has_M hb, Option.bind_some, q, if_neg Bool.false_ne_true, if_pos rfl, nI_1])
    (fun s hp => by
      obtain ⟨ah', rfl, p1, p2⟩ := hp
      refine ⟨_, ⟨ah', rfl, p2⟩, fun κ => ?_⟩
      unfold bX5_tell_43
      simp only
      rw [if_pos (by rw [li10, nI_leI (by omega) (by omega)]; omega)])
    (k := 0) (s := (0, ah)) (N := N) (by omega) ⟨ah, rfl, fun g hg _ => r2 g hg, fun g hg => by omega⟩ (by omega)
  obtain ⟨ah', a1, a2⟩ := hz
  exact ⟨ah', by rw [e, a1], rfl, a2, rfl⟩
theorem clear_eq {N : Nat} {ea eb : Nat → Nat} {many named : Int32} {ah : Nat → Int32} (hN : 20 < N) : ∃ ah' : Nat → Int32, fX5_clear N many ah named = some (0, ah', 0) ∧ RO 0 ea eb 0 ah' 0 := by
  unfold fX5_clear
  obtain ⟨z, hz, e⟩ := lp_for (b := bX5_clear_12 N 0 0) 10 (fun k s => ∃ ah' : Nat → Int32, s = (nI k, ah') ∧ ∀ g, g < k → ah' g = 0) (fun z => ∃ ah' : Nat → Int32, z = some (0, ah', 0) ∧ ∀ g, g < 10 → ah' g = 0)
    (fun g s hg hp => by
      obtain ⟨ah', rfl, p1⟩ := hp
      left
      refine ⟨_, ⟨upd ah' g 0, rfl, fun x hx => ?_⟩, fun κ => ?_⟩
      · unfold upd
        by_cases c : x = g
        · rw [if_pos c]
        · rw [if_neg c]; exact p1 x (by omega)
      · unfold bX5_clear_12
        simp only
        rw [if_neg (by rw [li10, nI_leI (by omega) (by omega)]; omega), if_pos (chk_nI hg (by omega)), nI_clamp (by omega), nI_1])
    (fun s hp => by
      obtain ⟨ah', rfl, p1⟩ := hp
      refine ⟨_, ⟨ah', rfl, p1⟩, fun κ => ?_⟩
      unfold bX5_clear_12
      simp only
      rw [if_pos (by rw [li10, nI_leI (by omega) (by omega)]; omega)])
    (k := 0) (s := (0, ah)) (N := N) (by omega) ⟨ah, rfl, fun g hg => by omega⟩ (by omega)
  obtain ⟨ah', a1, a2⟩ := hz
  exact ⟨ah', by rw [e, a1], rfl, fun g hg => by rw [a2 g hg, M_none]; rfl, by rw [M_none]; rfl⟩
theorem nmIn_M {ea eb : Nat → Nat} {h : Nat} {G : Nat → Bool} : M (nmd ea eb h) &&& (M G ^^^ (-1)) = 0 ↔ nmIn ea eb h G = true := by
  rw [M_andn, M_eq0, nmIn_iff]
  constructor
  · intro z x hx hn
    have := z x hx
    rw [hn] at this; simpa using this
  · intro z x hx
    cases q : nmd ea eb h x with
    | false => rfl
    | true => rw [z x hx q]; rfl
theorem holdsFor_eq {N h : Nat} {ea eb : Nat → Nat} {ah : Nat → Int32} {G : Nat → Bool} (hN : 20 < N) (hA : ∀ g, g < 10 → ah g = M (fun x => tP ea eb h x g)) : fX5_holdsFor N ah (M (nmd ea eb h)) (M G) = some (if hO ea eb h G then 1 else 0) := by
  have lpq : ∀ B : Bool, lp (bX5_holdsFor_19 N ah (M (nmd ea eb h)) (M G)) N ((if B then 1 else 0), 0) = some (if B && alw (fun g => !(tP ea eb h g g)) 10 then 1 else 0) := by
    intro B
    have st : ((if B then (1 : Int32) else 0), (0 : Int32)) = (fun k => ((if B && alw (fun g => !(tP ea eb h g g)) k then (1 : Int32) else 0), nI k)) 0 := by simp [alw]; rfl
    rw [st]
    refine lp_eq0 (b := bX5_holdsFor_19 N ah (M (nmd ea eb h)) (M G)) 10 (fun k => ((if B && alw (fun g => !(tP ea eb h g g)) k then (1 : Int32) else 0), nI k)) _ (by omega) (fun k hk κ => ?_) (fun κ => ?_)
    · unfold bX5_holdsFor_19 bX5_holdsFor_47
      simp only
      rw [if_neg (by rw [li10, nI_leI (by omega) (by omega)]; omega), nI_1, alw]
      cases q : (B && alw (fun g => !(tP ea eb h g g)) k) with
      | false => rw [if_neg Bool.false_ne_true, if_pos rfl, ← Bool.and_assoc, q]; rfl
      | true =>
        rw [if_pos rfl, if_neg (by decide), if_pos (chk_nI hk (by omega)), nI_clamp (by omega), hA k hk, has_M hk, Option.bind_some, ← Bool.and_assoc, q, Bool.true_and]
        cases q2 : tP ea eb h k k with
        | false => rw [if_neg Bool.false_ne_true, if_pos rfl]; rfl
        | true => rw [if_pos rfl, if_neg (by decide)]; rfl
    · unfold bX5_holdsFor_19
      simp only
      rw [if_pos (by rw [li10, nI_leI (by omega) (by omega)]; omega), if_pos (b01 _)]
  unfold fX5_holdsFor hO
  by_cases c : nmIn ea eb h G = true
  · rw [if_pos (nmIn_M.mpr c), c]
    exact lpq true
  · rw [if_neg (fun z => c (nmIn_M.mp z)), show nmIn ea eb h G = false by simpa using c]
    exact lpq false
def bno (ea eb : Nat → Nat) (h g : Nat) : Bool := alw (fun x => !(tP ea eb h x g)) 10
theorem behind_eq {N h : Nat} {ea eb : Nat → Nat} {ah : Nat → Int32} {G : Nat → Bool} (hN : 20 < N) (hA : ∀ g, g < 10 → ah g = M (fun x => tP ea eb h x g)) : fX5_behindNobody N ah (M G) = some (M (fun g => G g && bno ea eb h g)) := by
  unfold fX5_behindNobody
  have st : ((0 : Int32), (0 : Int32)) = (fun k => (M (fun g => decide (g < k) && (G g && bno ea eb h g)), nI k)) 0 := by
    simp only
    rw [show M (fun g => decide (g < 0) && (G g && bno ea eb h g)) = 0 from by rw [M_none]; exact M_congr (fun x _ => by simp)]; rfl
  rw [st]
  refine lp_eq0 (b := bX5_behindNobody_4 N ah (M G)) 10 (fun k => (M (fun g => decide (g < k) && (G g && bno ea eb h g)), nI k)) _ (by omega) (fun k hk κ => ?_) (fun κ => ?_)
  · have z0 : ah k = 0 ↔ bno ea eb h k = true := by
      rw [hA k hk, M_eq0]
      unfold bno
      rw [alw_iff]
      constructor
      · intro z x hx; rw [z x hx]; rfl
      · intro z x hx; have := z x hx; simpa using this
    have same : (G k && bno ea eb h k) = false → M (fun g => decide (g < k) && (G g && bno ea eb h g)) = M (fun g => decide (g < k + 1) && (G g && bno ea eb h g)) := by
      intro z
      refine M_congr (fun x _ => ?_)
      by_cases c : x = k
      · rw [c, z]; simp
      · rw [show decide (x < k + 1) = decide (x < k) by simp; omega]
    unfold bX5_behindNobody_4 bX5_behindNobody_34
    simp only
    rw [if_neg (by rw [li10, nI_leI (by omega) (by omega)]; omega), has_M hk, Option.bind_some, nI_1]
    cases q : G k with
    | false => rw [if_neg Bool.false_ne_true, if_pos rfl, same (by rw [q]; rfl)]
    | true =>
      rw [if_pos rfl, if_neg (by decide), if_pos (chk_nI hk (by omega)), nI_clamp (by omega)]
      by_cases c : bno ea eb h k = true
      · rw [if_pos (z0.mpr c), bit_in hk, Option.bind_some, M_or]
        refine congrArg (fun z => κ (z, nI (k + 1))) (M_congr (fun x _ => ?_))
        by_cases d : x = k
        · rw [d, q, c]; simp
        · rw [show decide (x < k + 1) = decide (x < k) by simp; omega, beq_false_of_ne d, Bool.or_false]
      · rw [if_neg (fun z => c (z0.mp z)), same (by rw [q]; simpa using c)]
  · unfold bX5_behindNobody_4
    simp only
    rw [if_pos (by rw [li10, nI_leI (by omega) (by omega)]; omega)]
    exact congrArg some (M_congr (fun x hx => by simp [hx]))
-- counting by numbers of sets
def wv (pre : Nat → Nat → Bool) (s : Nat) : Nat := Wo pre (cnt s.testBit 10) s.testBit
theorem wv_bm {pre : Nat → Nat → Bool} {S : Nat → Bool} : wv pre (bm S 10) = Wo pre (cnt S 10) S := by
  have e : ∀ x, x < 10 → (bm S 10).testBit x = S x := fun x hx => by rw [bm_bit]; simp [hx]
  unfold wv
  rw [cnt_congr e, Wo_congr e]
theorem M_of {s : Nat} (h : s < 1024) : nI s = M s.testBit := by unfold M; rw [bm_of h]
theorem rmv_lt : ∀ (s : Fin 1024) (g : Fin 10), s.val.testBit g.val = true → bm (rmv s.val.testBit g.val) 10 < s.val := by decide +kernel
theorem bm_rmv {s g : Nat} (hs : s < 1024) (hg : g < 10) (h : s.testBit g = true) : bm (rmv s.testBit g) 10 < s := rmv_lt ⟨s, hs⟩ ⟨g, hg⟩ h
def wF (pre : Nat → Nat → Bool) (s g : Nat) : Nat := if s.testBit g && okp pre (rmv s.testBit g) g then wv pre (bm (rmv s.testBit g) 10) else 0
theorem cnt_bits {s : Nat} (h : s < 1024) (h0 : s ≠ 0) : 0 < cnt s.testBit 10 := by
  rcases Nat.eq_zero_or_pos (cnt s.testBit 10) with z | z
  · exfalso
    apply h0
    have e : ∀ x, x < 10 → s.testBit x = false := fun x hx => by
      cases q : s.testBit x with
      | false => rfl
      | true => have := cnt_rmv hx q; omega
    have h1 := bm_of h
    rw [bm_congr (T := fun _ => false) e] at h1
    rw [← h1]; decide
  · exact z
theorem wv_s {pre : Nat → Nat → Bool} {s : Nat} (h : s < 1024) (h0 : s ≠ 0) : wv pre s = sg (wF pre s) 10 := by
  have hc := cnt_bits h h0
  obtain ⟨f, hf⟩ : ∃ f, cnt s.testBit 10 = f + 1 := ⟨cnt s.testBit 10 - 1, by omega⟩
  rw [wv, hf, Wo]
  refine sg_congr (fun g hg => ?_)
  unfold wF
  cases q : s.testBit g with
  | false => rfl
  | true =>
    have hr := cnt_rmv hg q
    rw [wv_bm, show cnt (rmv s.testBit g) 10 = f by omega]
theorem wv_0 {pre : Nat → Nat → Bool} : wv pre 0 = 1 := by
  unfold wv
  rw [show cnt (Nat.testBit 0) 10 = 0 from by decide]
  rfl
theorem wv_le {pre : Nat → Nat → Bool} {s : Nat} : wv pre s ≤ 3628800 := Wo_10
def sbs (s : Nat) (S : Nat → Bool) : Prop := ∀ x, x < 10 → s.testBit x = true → S x = true
theorem sbs_M {s : Nat} {S : Nat → Bool} (h : s < 1024) : nI s &&& (M S ^^^ (-1)) = 0 ↔ sbs s S := by
  rw [M_of h, M_andn, M_eq0]
  constructor
  · intro z x hx hn
    have := z x hx
    rw [hn] at this; simpa using this
  · intro z x hx
    cases q : s.testBit x with
    | false => rfl
    | true => rw [z x hx q]; rfl
theorem sbs_rmv {s g : Nat} {S : Nat → Bool} (h : sbs s S) : sbs (bm (rmv s.testBit g) 10) S := by
  intro x hx z
  rw [bm_bit] at z
  simp only [hx, decide_true, Bool.true_and] at z
  unfold rmv at z
  rw [Bool.and_eq_true] at z
  exact h x hx z.1
theorem ways_eq {N h s : Nat} {ea eb : Nat → Nat} {ah w : Nat → Int32} {S : Nat → Bool} (hN : 20 < N) (hs : s < 1024) (hA : ∀ g, g < 10 → ah g = M (fun x => tP ea eb h x g)) (hsb : sbs s S) (hw : ∀ r, r < s → sbs r S → w r = nI (wv (tP ea eb h) r)) : fX5_waysToGoFirst N ah w (nI s) = some (nI (sg (wF (tP ea eb h) s) 10)) := by
  unfold fX5_waysToGoFirst
  refine lp_eq0 (b := bX5_waysToGoFirst_4 N ah w (nI s)) 10 (fun k => (nI (sg (wF (tP ea eb h) s) k), nI k)) _ (by omega) (fun k hk κ => ?_) (fun κ => ?_)
  · unfold bX5_waysToGoFirst_4 bX5_waysToGoFirst_52 nm
    simp only
    rw [if_neg (by rw [li10, nI_leI (by omega) (by omega)]; omega), bit_in hk, Option.bind_some, M_of hs, has_M hk, Option.bind_some, M_andn, show M (fun g => s.testBit g && !(g == k)) = M (rmv s.testBit k) from rfl, nI_1, sg]
    cases q : s.testBit k with
    | false => rw [if_neg Bool.false_ne_true, if_pos rfl, wF, q]; rfl
    | true =>
      have hlt := bm_rmv hs hk q
      have ok : M (fun x => tP ea eb h x k) &&& (M (rmv s.testBit k) ^^^ (-1)) = 0 ↔ okp (tP ea eb h) (rmv s.testBit k) k = true := by
        rw [M_andn, M_eq0, okp_iff]
        constructor
        · intro z x hx hp
          have := z x hx
          rw [hp] at this; simpa using this
        · intro z x hx
          cases q2 : tP ea eb h x k with
          | false => rfl
          | true => rw [z x hx q2]; rfl
      rw [if_pos rfl, if_neg (by decide), if_pos (chk_nI hk (by omega)), nI_clamp (by omega), hA k hk]
      by_cases c : okp (tP ea eb h) (rmv s.testBit k) k = true
      · rw [if_pos (ok.mpr c), show M (rmv s.testBit k) = nI (bm (rmv s.testBit k) 10) from rfl, if_pos (chk_nI (by omega) (by omega)), nI_clamp (by omega), hw _ hlt (sbs_rmv hsb), nI_add, wF, q, c]
        rfl
      · rw [if_neg (fun z => c (ok.mp z)), wF, q, show okp (tP ea eb h) (rmv s.testBit k) k = false by simpa using c]
        rfl
  · unfold bX5_waysToGoFirst_4
    simp only
    rw [if_pos (by rw [li10, nI_leI (by omega) (by omega)]; omega)]
theorem countOrders_eq {N h : Nat} {ea eb : Nat → Nat} {ah w : Nat → Int32} {G : Nat → Bool} (hN : 2200 < N) (hk8 : OK8 h ea eb) (hA : ∀ g, g < 10 → ah g = M (fun x => tP ea eb h x g)) : ∃ w' : Nat → Int32, fX5_countOrders N ah (M (nmd ea eb h)) w (M G) = some (lN (fO ea eb h G), w') := by
  unfold fX5_countOrders
  rw [holdsFor_eq (by omega) hA, Option.bind_some, fO_class hk8]
  cases q : hO ea eb h G with
  | false => rw [if_neg Bool.false_ne_true, if_pos rfl, if_neg (by decide)]; exact ⟨_, rfl⟩
  | true =>
    rw [if_pos rfl, if_neg (by decide), if_pos rfl, cl0]
    have q1 : nmIn ea eb h G = true := by unfold hO at q; rw [Bool.and_eq_true] at q; exact q.1
    have hn := nmIn_iff.mp q1
    have hcl : cnt (nmd ea eb h) 10 ≤ cnt G 10 := cnt_mono (fun x hx z => hn x hx z)
    have hcG := cnt_le G 10
    have hnb := bm10 (nmd ea eb h)
    obtain ⟨z, hz, e⟩ := lp_for (b := bX5_countOrders_19 N ah (M (nmd ea eb h)) (M G)) (bm (nmd ea eb h) 10 + 1) (fun s st => 1 ≤ s ∧ ∃ w' : Nat → Int32, st = (nI s, w') ∧ ∀ r, r < s → sbs r (nmd ea eb h) → w' r = nI (wv (tP ea eb h) r)) (fun z => ∃ w' : Nat → Int32, z = some (lN (Wo (tP ea eb h) (cnt (nmd ea eb h) 10) (nmd ea eb h) * prd (cnt (nmd ea eb h) 10) (cnt G 10)), w'))
      (fun s st hs hp => by
        obtain ⟨s1, w', rfl, p1⟩ := hp
        left
        have hs' : s < 1024 := by omega
        have s0 : s ≠ 0 := by omega
        by_cases c : sbs s (nmd ea eb h)
        · refine ⟨_, ⟨by omega, upd w' s (nI (sg (wF (tP ea eb h) s) 10)), rfl, fun r hr hsb => ?_⟩, fun κ => ?_⟩
          · unfold upd
            by_cases d : r = s
            · rw [if_pos d, d, wv_s hs' s0]
            · rw [if_neg d]; exact p1 r (by omega) hsb
          · unfold bX5_countOrders_19 bX5_countOrders_49
            simp only
            rw [if_neg (by rw [show M (nmd ea eb h) = nI (bm (nmd ea eb h) 10) from rfl, nI_ltI (by omega) (by omega)]; omega), if_pos ((sbs_M hs').mpr c), ways_eq (by omega) hs' hA c p1, Option.bind_some, if_pos (chk_nI hs' (by omega)), nI_clamp (by omega), nI_1]
        · refine ⟨_, ⟨by omega, w', rfl, fun r hr hsb => ?_⟩, fun κ => ?_⟩
          · by_cases d : r = s
            · rw [d] at hsb; exact absurd hsb c
            · exact p1 r (by omega) hsb
          · unfold bX5_countOrders_19 bX5_countOrders_49
            simp only
            rw [if_neg (by rw [show M (nmd ea eb h) = nI (bm (nmd ea eb h) 10) from rfl, nI_ltI (by omega) (by omega)]; omega), if_neg (fun z => c ((sbs_M hs').mp z)), nI_1])
      (fun st hp => by
        obtain ⟨-, w', rfl, p1⟩ := hp
        have hself : sbs (bm (nmd ea eb h) 10) (nmd ea eb h) := fun x hx z => by rw [bm_bit] at z; simpa [hx] using z
        have hwv := p1 (bm (nmd ea eb h) 10) (by omega) hself
        rw [wv_bm] at hwv
        have hle : Wo (tP ea eb h) (cnt (nmd ea eb h) 10) (nmd ea eb h) ≤ 3628800 := Wo_10
        refine ⟨_, ⟨w', rfl⟩, fun κ => ?_⟩
        unfold bX5_countOrders_19
        simp only
        rw [if_pos (by rw [show M (nmd ea eb h) = nI (bm (nmd ea eb h) 10) from rfl, nI_ltI (by omega) (by omega)]; omega), bitCount_M, Option.bind_some, show M (nmd ea eb h) = nI (bm (nmd ea eb h) 10) from rfl, if_pos (chk_nI (by omega) (by omega)), nI_clamp (by omega), hwv, nI_l (by omega), nI_1]
        have st : (lN (Wo (tP ea eb h) (cnt (nmd ea eb h) 10) (nmd ea eb h)), nI (cnt (nmd ea eb h) 10 + 1)) = (fun j => (lN (Wo (tP ea eb h) (cnt (nmd ea eb h) 10) (nmd ea eb h) * prd (cnt (nmd ea eb h) 10) (cnt (nmd ea eb h) 10 + j)), nI (cnt (nmd ea eb h) 10 + j + 1))) 0 := by
          simp only
          rw [show prd (cnt (nmd ea eb h) 10) (cnt (nmd ea eb h) 10 + 0) = 1 from prd_e (Nat.le_refl _), Nat.mul_one]
        rw [st]
        refine lp_eq0 (cnt G 10 - cnt (nmd ea eb h) 10) (fun j => (lN (Wo (tP ea eb h) (cnt (nmd ea eb h) 10) (nmd ea eb h) * prd (cnt (nmd ea eb h) 10) (cnt (nmd ea eb h) 10 + j)), nI (cnt (nmd ea eb h) 10 + j + 1))) _ (by omega) (fun j hj κ2 => ?_) (fun κ2 => ?_)
        · unfold bX5_countOrders_77
          simp only
          rw [bitCount_M, Option.bind_some, if_neg (by rw [nI_ltI (by omega) (by omega)]; omega), nI_l (by omega), lN_mul, nI_1, show cnt (nmd ea eb h) 10 + (j + 1) = cnt (nmd ea eb h) 10 + j + 1 from rfl, prd, if_pos (by omega), Nat.mul_assoc]
        · unfold bX5_countOrders_77
          simp only
          rw [bitCount_M, Option.bind_some, if_pos (by rw [nI_ltI (by omega) (by omega)]; omega), show cnt (nmd ea eb h) 10 + (cnt G 10 - cnt (nmd ea eb h) 10) = cnt G 10 by omega])
      (k := 1) (s := (1, upd w 0 1)) (N := N) (by omega) ⟨by omega, upd w 0 1, rfl, fun r hr _ => by rw [show r = 0 by omega, pk_us, wv_0]; rfl⟩ (by omega)
    obtain ⟨w', a1⟩ := hz
    exact ⟨w', by rw [e, a1]⟩

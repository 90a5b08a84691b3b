/-! 30: alike -/
def fa : Nat → Int64
  | 0 => 1
  | m + 1 => fa m * (nI (m + 1)).toInt64
def de : Nat → Int64
  | 0 => 1
  | 1 => 0
  | m + 2 => (nI (m + 1)).toInt64 * (de (m + 1) + de m)
def dpv : Nat → Int64
  | 0 => 0
  | m + 1 => de m
def pr (f : Nat → Int64) (c : Nat → Nat) : Nat → Int64
  | 0 => 1
  | l + 1 => pr f c l * f (c l)
def cl (n : Nat → Nat) (β : Nat → Nat → Nat) (look : Nat → Nat) (l : Nat) : Nat := cnt (fun g => cS n β g && (look g == l)) 10
def aAlike (n : Nat → Nat) (β : Nat → Nat → Nat) (look : Nat → Nat) (p : Int32) : Int64 := if 0 ≤ p ∧ p ≤ 1 then (if p = 0 then pr fa (cl n β look) 4 else pr de (cl n β look) 4) else (-9223372036854775808 : Int64) - ((-2 : Int32)).toInt64
theorem orders6 {N m : Nat} (hN : 20 < N) (hm : m ≤ 10) : fX6_orders N (nI m) = some (fa m) := by
  unfold fX6_orders
  have i0 : ((1 : Int64), (2 : Int32)) = (fun d => (fa (d + 1), nI (d + 2))) 0 := by decide
  rw [i0]
  refine lp_eq0 (m - 1) (fun d => (fa (d + 1), nI (d + 2))) _ (by omega) (fun d hd κ => ?_) (fun κ => ?_)
  · unfold bX6_orders_4
    simp only
    rw [if_neg (by rw [nI_ltI (by omega) (by omega)]; omega), nI_1]
    rfl
  · unfold bX6_orders_4
    simp only
    rw [if_pos (by rw [nI_ltI (by omega) (by omega)]; omega)]
    cases m with
    | zero => decide
    | succ m => rfl
theorem de_step : ∀ d, d < 10 → (if (nI (d + 1) - nI (d + 1) / (2 : Int32) * (2 : Int32)) = 0 then (nI (d + 1)).toInt64 * de d + ((1 : Int32)).toInt64 else (nI (d + 1)).toInt64 * de d + ((-1 : Int32)).toInt64) = de (d + 1) := by decide
theorem none6 {N m : Nat} (hN : 20 < N) (hm : m ≤ 10) : fX6_ordersWithNoneInPlace N (nI m) = some (de m) := by
  unfold fX6_ordersWithNoneInPlace
  have i0 : ((1 : Int64), (1 : Int32)) = (fun d => (de d, nI (d + 1))) 0 := by decide
  rw [i0]
  refine lp_eq0 m (fun d => (de d, nI (d + 1))) _ (by omega) (fun d hd κ => ?_) (fun κ => ?_)
  · unfold bX6_ordersWithNoneInPlace_4 bX6_ordersWithNoneInPlace_24
    simp only
    rw [if_neg (by rw [nI_ltI (by omega) (by omega)]; omega), ← de_step d (by omega), nI_1]
    by_cases c : (nI (d + 1) - nI (d + 1) / (2 : Int32) * (2 : Int32)) = 0
    · rw [if_pos c, if_pos c]
    · rw [if_neg c, if_neg c]
  · unfold bX6_ordersWithNoneInPlace_4
    simp only
    rw [if_pos (by rw [nI_ltI (by omega) (by omega)]; omega)]
theorem looks6 {N l : Nat} {S : Nat → Bool} {look : Nat → Nat} {a : Nat → Int32} (hN : 20 < N) (hl : l < 4) (ha : ∀ g, g < 10 → a g = nI (look g) ∧ look g < 4) : fX6_comersThatLook N (M S) a (nI l) = some (nI (cnt (fun g => S g && (look g == l)) 10)) := by
  unfold fX6_comersThatLook
  refine lp_eq0 10 (fun g => (nI (cnt (fun g => S g && (look g == l)) g), nI g)) _ (by omega) (fun g hg κ => ?_) (fun κ => ?_)
  · obtain ⟨a1, a2⟩ := ha g hg
    unfold bX6_comersThatLook_4 bX6_comersThatLook_41
    simp only
    rw [if_neg (by rw [li10, nI_leI (by omega) (by omega)]; omega), has_M hg, Option.bind_some, if_pos (chk_nI hg (by omega)), nI_clamp (by omega), a1, nI_1, nI_1, show cnt (fun g => S g && (look g == l)) (g + 1) = cnt (fun g => S g && (look g == l)) g + (if (S g && (look g == l)) = true then 1 else 0) from rfl]
    cases q : S g with
    | false => rfl
    | true =>
      rw [if_pos rfl, if_neg (by decide)]
      by_cases c : look g = l
      · rw [if_pos (by rw [c])]; simp [c]
      · rw [if_neg (by rw [nI_eq (by omega) (by omega)]; exact c)]; simp [c]
  · unfold bX6_comersThatLook_4
    simp only
    rw [if_pos (by decide)]
theorem alike6 {N : Nat} {n : Nat → Nat} {β : Nat → Nat → Nat} {look : Nat → Nat} {a : Nat → Int32} (hN : 20 < N) (ha : ∀ g, g < 10 → a g = nI (look g) ∧ look g < 4) (p : Int32) : fX6_alike N (M (cS n β)) a p = some (aAlike n β look p) := by
  unfold fX6_alike fX6_refusal aAlike
  rw [within_eq, Option.bind_some]
  by_cases c1 : 0 ≤ p ∧ p ≤ 1
  · rw [if_pos c1, if_neg (by decide), if_pos c1]
    have e : ((1 : Int64), (0 : Int32)) = (fun l => (if p = 0 then pr fa (cl n β look) l else pr de (cl n β look) l, nI l)) 0 := by simp only [pr, ite_self]; rfl
    rw [e]
    refine lp_eq0 4 (fun l => (if p = 0 then pr fa (cl n β look) l else pr de (cl n β look) l, nI l)) _ (by omega) (fun l hl κ => ?_) (fun κ => ?_)
    · unfold bX6_alike_20 bX6_alike_52
      simp only
      rw [if_neg (by rw [show (4 : Int32) = nI 4 from rfl, nI_leI (by omega) (by omega)]; omega), looks6 hN hl ha, Option.bind_some, orders6 hN (cnt_le _ _), none6 hN (cnt_le _ _), Option.bind_some, Option.bind_some, nI_1]
      by_cases d : p = 0
      · rw [if_pos d, if_pos d, if_pos d]; rfl
      · rw [if_neg d, if_neg d, if_neg d]; rfl
    · unfold bX6_alike_20
      simp only
      rw [if_pos (by decide)]
  · rw [if_neg c1, if_pos rfl, if_neg c1]
    rfl

theorem toI_pred (c : Nat) : nI c + 1 - 1 = nI c := by rw [nI_1]; exact nI_pred c
theorem alikeIn7 {N : Nat} {S : Nat → Bool} {look : Nat → Nat} {typed texts looks coming going worn : Nat → Int32} {p comes goes wears : Int32} {v2 v4 : Int64} {l : Nat} {κ : (Int64 × Int64 × Int32) → Option (Int64 × Int32 × (Nat → Int32) × Int32 × Int32 × (Nat → Int32) × Int32 × (Nat → Int32))} (hN : 20 < N) (hl : l < 4) (ha : ∀ g, g < 10 → looks g = nI (look g) ∧ look g < 4) : lp (bX7_alikeOf_33 N typed texts looks p comes coming (M S) goes going wears worn κ v2 v4 (nI l)) N (1, 1, 0, 0, 0) = κ (v2 * fa (cnt (fun g => S g && (look g == l)) 10), v4 * de (cnt (fun g => S g && (look g == l)) 10), nI (l + 1)) := by
  refine lp_eq0 10 (fun g => (fa (cnt (fun g => S g && (look g == l)) g), de (cnt (fun g => S g && (look g == l)) g), dpv (cnt (fun g => S g && (look g == l)) g), nI (cnt (fun g => S g && (look g == l)) g), nI g)) _ (by omega) (fun g hg κ' => ?_) (fun κ' => ?_)
  · obtain ⟨a1, a2⟩ := ha g hg
    have hc := cnt_le (fun g => S g && (look g == l)) g
    unfold bX7_alikeOf_33 bX7_alikeOf_96 bX7_alikeOf_106
    simp only
    rw [if_neg (by rw [li10, nI_leI (by omega) (by omega)]; omega), isIn_M hg, Option.bind_some, if_pos (chk_nI hg (by omega)), nI_clamp (by omega), a1, show cnt (fun g => S g && (look g == l)) (g + 1) = cnt (fun g => S g && (look g == l)) g + (if (S g && (look g == l)) = true then 1 else 0) from rfl]
    generalize cnt (fun g => S g && (look g == l)) g = c at *
    rw [toI_pred, nI_1, nI_1]
    cases q : S g with
    | false => rfl
    | true =>
      rw [if_pos rfl, if_neg (by decide)]
      by_cases w : look g = l
      · rw [if_pos (show nI (look g) = nI l by rw [w]), show (true && (look g == l)) = true by simp [w], if_pos rfl]
        cases c with
        | zero => rw [if_pos (by decide)]; rfl
        | succ c => rw [if_neg (show ¬ nI (c + 1 + 1) = (1 : Int32) by rw [li1, nI_eq (by omega) (by omega)]; omega)]; rfl
      · rw [if_neg (by rw [nI_eq (by omega) (by omega)]; exact w), show (true && (look g == l)) = false by simp [w]]; rfl
  · unfold bX7_alikeOf_33
    simp only
    rw [if_pos (by decide), nI_1]
theorem alike7 {N : Nat} {n : Nat → Nat} {β : Nat → Nat → Nat} {look : Nat → Nat} {typed texts looks coming going worn : Nat → Int32} {comes came goes wears : Int32} (hN : 20 < N) (hT : TM n β typed texts) (ha : ∀ g, g < 10 → looks g = nI (look g) ∧ look g < 4) (p : Int32) : ∃ R, fX7_alike N typed texts comes coming came goes going wears worn looks p = some R ∧ R.1 = aAlike n β look p := by
  unfold fX7_alike fX7_no aAlike
  rw [in_eq, Option.bind_some]
  by_cases c1 : 0 ≤ p ∧ p ≤ 1
  · rw [if_pos c1, if_neg (by decide), if_pos c1]
    unfold fX7_alikeOf
    rw [reads_eq hN hT, Option.bind_some]
    simp only
    have e : ((1 : Int64), (1 : Int64), (0 : Int32)) = (fun l => (pr fa (cl n β look) l, pr de (cl n β look) l, nI l)) 0 := rfl
    rw [e]
    have key : lp (bX7_alikeOf_12 N typed texts looks p (nI (tC n β)) (fl coming (fun k => nI (β 0 k - 97)) (tC n β)) (M (cS n β)) (nI (tG n β)) (fl going (fun k => nI (β 1 k - 97)) (tG n β)) (nI (tW n β)) (fl worn (fun k => nI (β 2 k - 97)) (tW n β))) N ((fun l => (pr fa (cl n β look) l, pr de (cl n β look) l, nI l)) 0) = some ((if p = 0 then pr fa (cl n β look) 4 else pr de (cl n β look) 4), nI (tC n β), fl coming (fun k => nI (β 0 k - 97)) (tC n β), M (cS n β), nI (tG n β), fl going (fun k => nI (β 1 k - 97)) (tG n β), nI (tW n β), fl worn (fun k => nI (β 2 k - 97)) (tW n β)) := by
      refine lp_eq0 4 (fun l => (pr fa (cl n β look) l, pr de (cl n β look) l, nI l)) _ (by omega) (fun l hl κ => ?_) (fun κ => ?_)
      · unfold bX7_alikeOf_12
        simp only
        rw [if_neg (by rw [show (4 : Int32) = nI 4 from rfl, nI_leI (by omega) (by omega)]; omega), alikeIn7 hN hl ha]
        rfl
      · unfold bX7_alikeOf_12
        simp only
        rw [if_pos (by decide)]
        by_cases d : p = 0
        · rw [if_pos d, if_pos d]
        · rw [if_neg d, if_neg d]
    rw [key, Option.bind_some]
    exact ⟨_, rfl, rfl⟩
  · rw [if_neg c1, if_pos rfl, if_neg c1]
    exact ⟨_, rfl, rfl⟩

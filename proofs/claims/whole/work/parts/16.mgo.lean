/-! ===== goings in the model ===== -/
theorem dg_rv {ng : Nat} {gm : Nat → Nat} (hd : DG ng gm) : DG ng (rv ng gm) := ⟨hd.1, fun k hk => hd.2.1 _ (by omega), fun i j hi hj e => by have := hd.2.2 (ng - 1 - i) (ng - 1 - j) (by omega) (by omega) e; omega⟩
theorem lvk_after {row cm : Nat → Nat} {dp n k : Nat} {gm : Nat → Nat} (hd : DG n cm) : lvk (L_S row cm dp n) (F_R row cm dp n) gm k = cnt (fun x => F_R row cm dp n (gm k) x && (L_S row cm dp n x && !gn gm (k + 1) x)) 10 := by
  unfold lvk
  apply cnt_congr
  intro x _
  rw [gn]
  by_cases e : x = gm k
  · subst e; rw [F_R_irr hd (Nat.le_refl _)]; rfl
  · simp [beq_false_of_ne e]
theorem goAll_loop {N n ng dp : Nat} {row cm gm ix : Nat → Nat} {typed texts coming going rowOf worn mi goer lf0 : Nat → Int32} {deep p1 came wears jn : Int32} (hN : 20 < N) (hd : DG n cm) (hca : CA n cm coming) (hrow : ∀ g, g < 10 → rowOf g = nI (row g) ∧ row g < 10) (hg : DG ng gm)
    (hix : ∀ k, k < ng → (if p1 = 0 then nI k else (nI ng - 1) - nI k) = nI (ix k) ∧ ix k < ng ∧ going (ix k) = nI (gm k)) :
    ∃ ge lf : Nat → Int32, lp (bX7_goAll_19 N typed texts rowOf deep p1 (nI n) coming came (nI ng) going wears worn (M (L_S row cm dp n)) jn mi) N (M (L_S row cm dp n), 0, 0, 0, goer, lf0) = some (nI (sm (L_S row cm dp n) (F_R row cm dp n) gm ng), nI n, coming, came, nI ng, going, wears, worn, M (L_S row cm dp n), jn, mi, nI (tc (L_S row cm dp n) gm ng), ge, lf) ∧ CA (tc (L_S row cm dp n) gm ng) (tkg (L_S row cm dp n) gm ng) ge ∧ CA (tc (L_S row cm dp n) gm ng) (tvg (L_S row cm dp n) (F_R row cm dp n) gm ng) lf := by
  have hn := hg.1
  generalize hL : L_S row cm dp n = L
  generalize hF : F_R row cm dp n = F
  obtain ⟨z, hz, e⟩ := lp_for (b := bX7_goAll_19 N typed texts rowOf deep p1 (nI n) coming came (nI ng) going wears worn (M L) jn mi) ng (fun k s => ∃ ge lf : Nat → Int32, s = (M (fun x => L x && !gn gm k x), nI (sm L F gm k), nI k, nI (tc L gm k), ge, lf) ∧ CA (tc L gm k) (tkg L gm k) ge ∧ CA (tc L gm k) (tvg L F gm k) lf)
    (fun z => ∃ ge lf : Nat → Int32, z = some (nI (sm L F gm ng), nI n, coming, came, nI ng, going, wears, worn, M L, jn, mi, nI (tc L gm ng), ge, lf) ∧ CA (tc L gm ng) (tkg L gm ng) ge ∧ CA (tc L gm ng) (tvg L F gm ng) lf)
    (fun k s hk hp => by
      obtain ⟨ge, lf, rfl, h2, h3⟩ := hp
      have hc := hg.2.1 k hk
      have htc := @tc_le L gm k
      obtain ⟨x1, x2, x3⟩ := hix k hk
      have e50 : ∀ κ, bX7_goAll_19 N typed texts rowOf deep p1 (nI n) coming came (nI ng) going wears worn (M L) jn mi κ (M (fun x => L x && !gn gm k x), nI (sm L F gm k), nI k, nI (tc L gm k), ge, lf) = bX7_goAll_50 N typed texts rowOf deep p1 (nI n) coming came (nI ng) going wears worn (M L) jn mi κ (nI (ix k)) (M (fun x => L x && !gn gm k x)) (nI (sm L F gm k)) (nI k) (nI (tc L gm k)) ge lf := by
        intro κ
        unfold bX7_goAll_19
        simp only
        rw [if_neg (by rw [nI_leI (by omega) (by omega)]; omega), ← x1]
        by_cases c : p1 = 0
        · rw [if_pos c, if_pos c]
        · rw [if_neg c, if_neg c]
      left
      by_cases c : L (gm k) = true
      · have hlv : lvk L F gm k = ifc row cm (fun x => L x && !gn gm (k + 1) x) (gm k) n := by
          rw [← hL, ← hF, lvk_after hd, ifc_eq hd (by rw [hL]; exact c) (fun x hx => (Bool.and_eq_true _ _ ▸ hx : _ ∧ _).1) (Nat.le_refl _)]
        refine ⟨_, ⟨upd ge (tc L gm k) (nI (gm k)), upd lf (tc L gm k) (nI (lvk L F gm k)), rfl, fun i hi => ?_, fun i hi => ?_⟩, fun κ => ?_⟩
        · rw [tc, if_pos c] at hi
          unfold upd
          rw [tkg]
          by_cases w : i = tc L gm k
          · rw [if_pos w, if_pos ⟨c, w⟩]
          · rw [if_neg w, if_neg (fun z => w z.2)]; exact h2 i (by omega)
        · rw [tc, if_pos c] at hi
          unfold upd
          rw [tvg]
          by_cases w : i = tc L gm k
          · rw [if_pos w, if_pos ⟨c, w⟩]
          · rw [if_neg w, if_neg (fun z => w z.2)]; exact h3 i (by omega)
        · rw [e50]
          unfold bX7_goAll_50 bX7_goAll_123 nm
          have eS : M (fun x => L x && !gn gm k x) &&& (M (fun x => x == gm k) ^^^ (-1)) = M (fun x => L x && !gn gm (k + 1) x) := by
            rw [M_andn]
            refine M_congr (fun x _ => ?_)
            rw [gn]
            cases L x <;> cases gn gm k x <;> simp
          rw [if_pos (chk_nI (by omega) (by omega)), nI_clamp (by omega), x3, isIn_M hc, Option.bind_some, if_pos c, if_neg (by decide), M_bit _ hc, eS]
          simp only
          rw [if_pos (chk_nI (show tc L gm k < 10 by omega) (by omega)), inFront_eq hN hd hca hrow hc, Option.bind_some, if_pos (chk_nI (show tc L gm k < 10 by omega) (by omega)), if_pos (chk_nI (show tc L gm k < 10 by omega) (by omega)), nI_clamp (by omega), pk_us, nI_1, nI_1, nI_add, ← hlv, tc, if_pos c, sm, if_pos c]
      · refine ⟨_, ⟨ge, lf, rfl, fun i hi => ?_, fun i hi => ?_⟩, fun κ => ?_⟩
        · rw [tc, if_neg c] at hi
          rw [tkg, if_neg (fun z => c z.1)]; exact h2 i (by omega)
        · rw [tc, if_neg c] at hi
          rw [tvg, if_neg (fun z => c z.1)]; exact h3 i (by omega)
        · rw [e50]
          unfold bX7_goAll_50 bX7_goAll_123
          rw [if_pos (chk_nI (by omega) (by omega)), nI_clamp (by omega), x3, isIn_M hc, Option.bind_some, if_neg c, if_pos rfl, nI_1, tc, if_neg c, sm, if_neg c]
          refine congrArg (fun z => κ (z, _)) (M_congr (fun x _ => ?_))
          rw [gn]
          by_cases w : x = gm k
          · subst w; simp [c]
          · simp [beq_false_of_ne w])
    (fun s hp => by
      obtain ⟨ge, lf, rfl, h2, h3⟩ := hp
      refine ⟨_, ⟨ge, lf, rfl, h2, h3⟩, fun κ => ?_⟩
      unfold bX7_goAll_19
      simp only
      rw [if_pos (by rw [nI_leI (by omega) (by omega)]; omega)])
    (k := 0) (s := (M L, 0, 0, 0, goer, lf0)) (N := N) (by omega) ⟨goer, lf0, by refine congrArg (fun z => (z, _)) (M_congr (fun x _ => by simp [gn])), fun i hi => by simp [tc] at hi, fun i hi => by simp [tc] at hi⟩ (by omega)
  obtain ⟨ge, lf, h1, h2, h3⟩ := hz
  exact ⟨ge, lf, by rw [e, h1], h2, h3⟩
section MG
variable {N : Nat} {n : Nat → Nat} {β : Nat → Nat → Nat} {typed texts coming going worn rowOf manyIn goer lfo : Nat → Int32} {comes came goes wears laid judgedNow goers : Int32} {row : Nat → Nat} {dp : Nat}
/-- the goings' order: as told, or from the last one back -/
def gd (b : Bool) (n : Nat → Nat) (β : Nat → Nat → Nat) : Nat → Nat := if b then rv (tG n β) (lt β 1) else lt β 1
abbrev LSs (row : Nat → Nat) (dp : Nat) (n : Nat → Nat) (β : Nat → Nat → Nat) : Nat → Bool := L_S row (lt β 0) dp (tC n β)
abbrev FRs (row : Nat → Nat) (dp : Nat) (n : Nat → Nat) (β : Nat → Nat → Nat) : Nat → Nat → Bool := F_R row (lt β 0) dp (tC n β)
theorem dg_gd {b : Bool} (h : n 1 ≤ 10) : DG (tG n β) (gd b n β) := by
  unfold gd
  cases b
  · exact dg_g h
  · exact dg_rv (dg_g h)
theorem goAll_eq (b : Bool) (hN : 20 < N) (hT : TM n β typed texts) (hrow : ∀ g, g < 10 → rowOf g = nI (row g) ∧ row g < 10) (hdp : dp ≤ 10) :
    ∃ mi ge lf : Nat → Int32, fX7_goAll N typed texts comes coming came goes going wears worn rowOf (nI dp) laid judgedNow manyIn goers goer lfo (if b then 1 else 0) = some (nI (sm (LSs row dp n β) (FRs row dp n β) (gd b n β) (tG n β)), nI (tC n β), fl coming (fun k => nI (β 0 k - 97)) (tC n β), M (cS n β), nI (tG n β), fl going (fun k => nI (β 1 k - 97)) (tG n β), nI (tW n β), fl worn (fun k => nI (β 2 k - 97)) (tW n β), M (LSs row dp n β), J_G row (lt β 0) dp (tC n β), mi, nI (tc (LSs row dp n β) (gd b n β) (tG n β)), ge, lf)
      ∧ (∀ r, r < 10 → mi r = nI (cnt (fun g => LSs row dp n β g && (row g == r)) 10)) ∧ CA (tc (LSs row dp n β) (gd b n β) (tG n β)) (tkg (LSs row dp n β) (gd b n β) (tG n β)) ge ∧ CA (tc (LSs row dp n β) (gd b n β) (tG n β)) (tvg (LSs row dp n β) (FRs row dp n β) (gd b n β) (tG n β)) lf := by
  have h0 := (hT 0 (by omega)).2.1
  have h1 := (hT 1 (by omega)).2.1
  have hg10 : tG n β ≤ 10 := by have := @tG_le n β; omega
  obtain ⟨mi, e1, e2⟩ := lays_eq (N := N) (n := n) (β := β) (typed := typed) (texts := texts) (coming := coming) (going := going) (worn := worn) (rowOf := rowOf) (manyIn := manyIn) (comes := comes) (came := came) (goes := goes) (wears := wears) (laid := laid) (judgedNow := judgedNow) (row := row) (dp := dp) hN hT hrow hdp
  have hgo : CA (tG n β) (lt β 1) (fl going (fun k => nI (β 1 k - 97)) (tG n β)) := ca_fl
  obtain ⟨ge, lf, g1, g2, g3⟩ := goAll_loop (N := N) (n := tC n β) (ng := tG n β) (dp := dp) (row := row) (cm := lt β 0) (gm := gd b n β) (ix := fun k => if b then tG n β - 1 - k else k) (typed := typed) (texts := texts) (coming := fl coming (fun k => nI (β 0 k - 97)) (tC n β)) (going := fl going (fun k => nI (β 1 k - 97)) (tG n β)) (rowOf := rowOf) (worn := fl worn (fun k => nI (β 2 k - 97)) (tW n β)) (mi := mi) (goer := goer) (lf0 := lfo) (deep := nI dp) (p1 := if b then 1 else 0) (came := M (cS n β)) (wears := nI (tW n β)) (jn := J_G row (lt β 0) dp (tC n β)) hN (dg_c h0) ca_fl hrow (dg_gd h1) (fun k hk => by
    cases b with
    | false => exact ⟨rfl, hk, hgo k hk⟩
    | true =>
      refine ⟨?_, by show tG n β - 1 - k < tG n β; omega, hgo _ (by show tG n β - 1 - k < tG n β; omega)⟩
      show nI (tG n β) - 1 - nI k = nI (tG n β - 1 - k)
      rw [nI_pd (by omega), pk_sub (by omega)])
  refine ⟨mi, ge, lf, ?_, e2, g2, g3⟩
  unfold fX7_goAll
  rw [e1, Option.bind_some]
  exact g1
end MG
theorem goerOf_loop {N t : Nat} {tk : Nat → Nat} {ge : Nat → Int32} {g : Nat} (hN : 20 < N) (ht : t ≤ 10) (hge : CA t tk ge) (htk : ∀ i, i < t → tk i < 10) (hg : g < 10) : (∃ i, i < t ∧ tk i = g ∧ fX7_goerOf N (nI t) ge (nI g) = some (nI i)) ∨ ((∀ i, i < t → tk i ≠ g) ∧ fX7_goerOf N (nI t) ge (nI g) = some (-1)) := by
  unfold fX7_goerOf
  obtain ⟨z, hz, e⟩ := lp_for (b := bX7_goerOf_2 N (nI t) ge (nI g)) t (fun k s => s = nI k ∧ ∀ i, i < k → tk i ≠ g) (fun z => (∃ i, i < t ∧ tk i = g ∧ z = some (nI i)) ∨ ((∀ i, i < t → tk i ≠ g) ∧ z = some (-1)))
    (fun k s hk hp => by
      obtain ⟨rfl, h1⟩ := hp
      by_cases c : tk k = g
      · right
        refine ⟨_, Or.inl ⟨k, hk, c, rfl⟩, fun κ => ?_⟩
        unfold bX7_goerOf_2
        rw [if_neg (by rw [nI_leI (by omega) (by omega)]; omega), if_pos (chk_nI (by omega) (by omega)), nI_clamp (by omega), hge k hk, c, if_pos rfl]
      · left
        refine ⟨_, ⟨rfl, fun i hi => ?_⟩, fun κ => ?_⟩
        · by_cases w : i = k
          · rw [w]; exact c
          · exact h1 i (by omega)
        · unfold bX7_goerOf_2
          have := htk k hk
          rw [if_neg (by rw [nI_leI (by omega) (by omega)]; omega), if_pos (chk_nI (by omega) (by omega)), nI_clamp (by omega), hge k hk, if_neg (by rw [nI_eq (by omega) (by omega)]; exact c), nI_1])
    (fun s hp => by
      obtain ⟨rfl, h1⟩ := hp
      refine ⟨_, Or.inr ⟨h1, rfl⟩, fun κ => ?_⟩
      unfold bX7_goerOf_2
      rw [if_pos (by rw [nI_leI (by omega) (by omega)]; omega)])
    (k := 0) (s := 0) (N := N) (by omega) ⟨rfl, fun i hi => by omega⟩ (by omega)
  rcases hz with ⟨i, a1, a2, a3⟩ | ⟨a1, a2⟩
  · exact Or.inl ⟨i, a1, a2, by rw [e, a3]⟩
  · exact Or.inr ⟨a1, by rw [e, a2]⟩
theorem goerOf_none {N t : Nat} {tk : Nat → Nat} {ge : Nat → Int32} (hN : 20 < N) (ht : t ≤ 10) (hge : CA t tk ge) (htk : ∀ i, i < t → tk i < 10) : fX7_goerOf N (nI t) ge (-1) = some (-1) := by
  unfold fX7_goerOf
  refine lp_eq0 t (fun k => nI k) _ (by omega) (fun k hk κ => ?_) (fun κ => ?_)
  · unfold bX7_goerOf_2
    have := htk k hk
    rw [if_neg (by rw [nI_leI (by omega) (by omega)]; omega), if_pos (chk_nI (by omega) (by omega)), nI_clamp (by omega), hge k hk, if_neg (m1_ne (by omega)), nI_1]
  · unfold bX7_goerOf_2
    rw [if_pos (by rw [nI_leI (by omega) (by omega)]; omega)]

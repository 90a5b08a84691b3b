/-! ===== what class and model hold of texts, guests and settings ===== -/
def TX (n : Nat → Nat) (β : Nat → Nat → Nat) (t : Nat) (b : Nat → Int32) (z : Int32) : Prop := z = nI (n t) ∧ n t ≤ 10 ∧ ∀ k, k < n t → b k = nI (β t k) ∧ β t k < 256
def RTr (tr : Nat → Nat → Nat) (a0 a1 a2 : Nat → Int32) : Prop := ∀ g, g < 10 → (a0 g = nI (tr 0 g) ∧ tr 0 g < 10) ∧ (a1 g = nI (tr 1 g) ∧ tr 1 g < 4) ∧ (a2 g = nI (tr 2 g) ∧ tr 2 g < 100)
def SB (st : Nat → Nat) : Prop := (1 ≤ st 0 ∧ st 0 ≤ 10) ∧ (1 ≤ st 1 ∧ st 1 ≤ 9) ∧ (1 ≤ st 2 ∧ st 2 ≤ 60) ∧ st 3 ≤ 9
def RSt (st : Nat → Nat) (a : Nat → Int32) : Prop := SB st ∧ ∀ k, k < 4 → a k = nI (st k)
section DR
variable (n : Nat → Nat) (β : Nat → Nat → Nat) (row : Nat → Nat) (dp : Nat)
abbrev tcs : Nat := tc (LSs row dp n β) (lt β 1) (tG n β)
abbrev tks : Nat → Nat := tkg (LSs row dp n β) (lt β 1) (tG n β)
abbrev tvs : Nat → Nat := tvg (LSs row dp n β) (FRs row dp n β) (lt β 1) (tG n β)
abbrev lfs : Nat → Option Nat := lfg (LSs row dp n β) (FRs row dp n β) (lt β 1) (tG n β)
abbrev sms : Nat := sm (LSs row dp n β) (FRs row dp n β) (lt β 1) (tG n β)
abbrev whs : Nat → Nat := wh (cS n β) (lt β 1) (tG n β)
def RH (ir fo lf tk : Nat → Int32) (tcn ld jg la : Int32) : Prop := (∀ r, r < 10 → ir r = M (fun g => LSs row dp n β g && (row g == r))) ∧ (∀ o, o < 10 → fo o = M (FRs row dp n β o)) ∧ (∀ g, g < 10 → lf g = oI (lfs n β row dp g)) ∧ CA (tcs n β row dp) (tks n β row dp) tk ∧ tcn = nI (tcs n β row dp) ∧ ld = M (LSs row dp n β) ∧ jg = J_G row (lt β 0) dp (tC n β) ∧ la = nI (sms n β row dp)
def RG (many : Int32) (gt lft : Nat → Int32) : Prop := many = nI (tC n β) ∧ (∀ k, k < tC n β → gt k = nI (whs n β (lt β 0 k))) ∧ ∀ k, k < tC n β → lft k = M (fun j => decide (j < k) && decide (whs n β (lt β 0 j) < whs n β (lt β 0 k)))
end DR
theorem gc_c {n : Nat → Nat} {β : Nat → Nat → Nat} (h1 : n 1 ≤ 10) : GC (cS n β) (tG n β) (lt β 1) := fun k hk => (okc_lo (g_ok h1 hk)).2.2.1
theorem cS_gn {n : Nat → Nat} {β : Nat → Nat → Nat} (g : Nat) : cS n β g = gn (lt β 0) (tC n β) g := (gn_sn β 0 _ g).symm
theorem tx_tg {n : Nat → Nat} {β : Nat → Nat → Nat} {t m : Nat} {b : Nat → Int32} {z : Int32} {al : Nat → Bool} (h : TX n β t b z) (hm : m ≤ n t) (hok : ∀ k, k < m → okc al (β t) k = true) : TG m (lt β t) b := fun k hk => by
  have h1 := (okc_lo (hok k hk)).1
  rw [(h.2.2 k (by omega)).1]
  congr 1
  show β t k = β t k - 97 + 97
  omega
theorem known_C (n : Nat → Nat) (β : Nat → Nat → Nat) : (if tF0 n β = -1 then nI (n 0) else 0) = nI (tC n β) := by unfold tC; split <;> rfl
theorem known_G (n : Nat → Nat) (β : Nat → Nat → Nat) : (if tF1 n β = -1 then nI (n 1) else 0) = nI (tG n β) := by unfold tG; split <;> rfl
theorem bits_C (n : Nat → Nat) (β : Nat → Nat → Nat) : (if tF0 n β = -1 then M (sn (β 0) (n 0)) else 0) = M (cS n β) := by
  unfold cS tC
  split
  · rfl
  · exact M_none
theorem settle_eq {N : Nat} {n : Nat → Nat} {β : Nat → Nat → Nat} {row : Nat → Nat} {dp : Nat} {b0 b1 b2 tr0 se ir fo lf tk gt lft : Nat → Int32} {z0 z1 z2 : Int32} {x1 x2 x3 x4 x5 x6 x7 x8 x9 y1 y2 y3 y4 y5 : Int32} (hN : 20 < N) (h0 : TX n β 0 b0 z0) (h1 : TX n β 1 b1 z1) (h2 : TX n β 2 b2 z2) (hrow : ∀ g, g < 10 → tr0 g = nI (row g) ∧ row g < 10) (hse : se 0 = nI dp) (hdp : dp ≤ 10) :
    ∃ (q1 q2 : Int32) (ir' fo' lf' tk' gt' lft' : Nat → Int32), fX6_settle N b0 z0 x1 x2 x3 b1 z1 x4 x5 x6 b2 z2 x7 x8 x9 tr0 se ir fo lf tk y1 y2 y3 y4 y5 gt lft = some (tF0 n β, nI (tC n β), M (cS n β), tF1 n β, nI (tG n β), q1, tF2 n β, nI (tW n β), q2, ir', fo', lf', tk', nI (tcs n β row dp), M (LSs row dp n β), J_G row (lt β 0) dp (tC n β), nI (sms n β row dp), nI (tC n β), gt', lft')
      ∧ RH n β row dp ir' fo' lf' tk' (nI (tcs n β row dp)) (M (LSs row dp n β)) (J_G row (lt β 0) dp (tC n β)) (nI (sms n β row dp)) ∧ RG n β (nI (tC n β)) gt' lft' := by
  have d0 := dg_c (β := β) h0.2.1
  have d1 := dg_g (β := β) h1.2.1
  have g0 : TG (tC n β) (lt β 0) b0 := tx_tg h0 tC_le (fun k hk => c_ok h0.2.1 hk)
  have g1 : TG (tG n β) (lt β 1) b1 := tx_tg h1 tG_le (fun k hk => g_ok h1.2.1 hk)
  obtain ⟨ir', fo', e1, e2, e3⟩ := lay_eq (N := N) (n := tC n β) (dp := dp) (row := row) (cm := lt β 0) (ir := ir) (fo := fo) (bytes := b0) (rowOf := tr0) (ld := y2) (jg := y3) hN d0 g0 hrow hdp
  obtain ⟨lf', tk', e4, e5, e6⟩ := letGo_eq (N := N) (ng := tG n β) (gm := lt β 1) (L := LSs row dp n β) (F := FRs row dp n β) (fo := fo') (lf := lf) (tk := tk) (bytes := b1) (t0 := y1) (a0 := y4) hN d1 g1 e3
  obtain ⟨gt', lft', e7, e8, e9⟩ := order_eq (N := N) (n := tC n β) (ng := tG n β) (cm := lt β 0) (gm := lt β 1) (C := cS n β) (gt := gt) (lf := lft) (b0 := b0) (b1 := b1) (many := y5) hN d0 d1 cS_gn (gc_c h1.2.1) g0 g1
  refine ⟨if tF1 n β = -1 then M (sn (β 1) (n 1)) else 0, if tF2 n β = -1 then M (sn (β 2) (n 2)) else 0, ir', fo', lf', tk', gt', lft', ?_, ⟨e2, e3, e5, e6, rfl, rfl, rfl, rfl⟩, ⟨rfl, e8, e9⟩⟩
  unfold fX6_settle
  rw [M_all, h0.1, judge_eq hN h0.2.1 h0.2.2, Option.bind_some]
  simp only
  rw [show (if ft (okc (fun _ => true) (β 0)) 0 (n 0) = -1 then nI (n 0) else 0) = nI (tC n β) from known_C n β, show (if ft (okc (fun _ => true) (β 0)) 0 (n 0) = -1 then M (sn (β 0) (n 0)) else 0) = M (cS n β) from bits_C n β, h1.1, judge_eq hN h1.2.1 h1.2.2, Option.bind_some]
  simp only
  rw [show (if ft (okc (cS n β) (β 1)) 0 (n 1) = -1 then nI (n 1) else 0) = nI (tG n β) from known_G n β, h2.1, judge_eq hN h2.2.1 h2.2.2, Option.bind_some]
  simp only
  rw [show ft (okc (fun _ => true) (β 2)) 0 (n 2) = tF2a n β from rfl, judgeEnd_eq h2.2.1, Option.bind_some, cl0, hse, e1, Option.bind_some]
  simp only
  rw [e4, Option.bind_some]
  simp only
  rw [e7, Option.bind_some]
  rfl

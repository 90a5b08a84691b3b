/-! ===== model halves (printed by wip/gen/gensim.py) ===== -/
theorem s7_type {N : Nat} (l : Launch) (D : va_G) {c0 : Nat → ClassId} {ad : Nat → Nat} {w : va_W} {n : Nat → Nat} {β tr : Nat → Nat → Nat} {st : Nat → Nat} {h : Nat} {ea eb : Nat → Nat} {lo : Nat → Bool} {fo si : Nat → Nat} {it : Nat → Nat → Int32} {fd : Int32} (hN : 2200 < N) (hC : C7 c0 ad w n β tr st h ea eb lo fo si it fd) (p1 p2 : Int32) : ∃ w', Ct l D c0 yX7_type cX7_type 3 (some .int) (rmF 2 42) [.ref (ad 0), .int p1, .int p2] w (some (.int ((tyA n β p1 p2).1))) w' ∧ C7 c0 ad w' ((tyA n β p1 p2).2.1) ((tyA n β p1 p2).2.2) tr st h ea eb lo fo si it fd := by
  refine hC _ ?_
  intro typed texts comes coming came goes going wears worn rowOf looks minutes deep room look lift laid judgedNow manyIn goers goer liftedFor whens fronts laidTo chains outs aheads aheadOne aheadOther orders isThere forms sizes items moved finding hw hM hO hS hF
  subst hw
  subst hF
  obtain ⟨R, e, a, hT2⟩ := type7   hM p1 p2
  have k := kX7_type l D c0 ad typed texts comes coming came goes going wears worn rowOf looks minutes deep room look lift laid judgedNow manyIn goers goer liftedFor whens fronts laidTo chains outs aheads aheadOne aheadOther orders isThere forms sizes items moved finding p1 p2 e
  rw [a] at k
  exact ⟨_, k, fun _ g => g _ _ _ _ _ _ _ _ _ _ _ _ _ _ _ _ _ _ _ _ _ _ _ _ _ _ _ _ _ _ _ _ _ _ _ _ _ rfl hT2 hO hS rfl⟩
theorem s7_wipe {N : Nat} (l : Launch) (D : va_G) {c0 : Nat → ClassId} {ad : Nat → Nat} {w : va_W} {n : Nat → Nat} {β tr : Nat → Nat → Nat} {st : Nat → Nat} {h : Nat} {ea eb : Nat → Nat} {lo : Nat → Bool} {fo si : Nat → Nat} {it : Nat → Nat → Int32} {fd : Int32} (hN : 2200 < N) (hC : C7 c0 ad w n β tr st h ea eb lo fo si it fd) (p1 : Int32) : ∃ w', Ct l D c0 yX7_wipe cX7_wipe 3 (some .int) (rmF 2 42) [.ref (ad 0), .int p1] w (some (.int ((wiA n p1).1))) w' ∧ C7 c0 ad w' ((wiA n p1).2) β tr st h ea eb lo fo si it fd := by
  refine hC _ ?_
  intro typed texts comes coming came goes going wears worn rowOf looks minutes deep room look lift laid judgedNow manyIn goers goer liftedFor whens fronts laidTo chains outs aheads aheadOne aheadOther orders isThere forms sizes items moved finding hw hM hO hS hF
  subst hw
  subst hF
  obtain ⟨R, e, a, hT2⟩ := wipe7   hM p1
  have k := kX7_wipe l D c0 ad typed texts comes coming came goes going wears worn rowOf looks minutes deep room look lift laid judgedNow manyIn goers goer liftedFor whens fronts laidTo chains outs aheads aheadOne aheadOther orders isThere forms sizes items moved finding p1 e
  rw [a] at k
  exact ⟨_, k, fun _ g => g _ _ _ _ _ _ _ _ _ _ _ _ _ _ _ _ _ _ _ _ _ _ _ _ _ _ _ _ _ _ _ _ _ _ _ _ _ rfl hT2 hO hS rfl⟩
theorem s7_undo {N : Nat} (l : Launch) (D : va_G) {c0 : Nat → ClassId} {ad : Nat → Nat} {w : va_W} {n : Nat → Nat} {β tr : Nat → Nat → Nat} {st : Nat → Nat} {h : Nat} {ea eb : Nat → Nat} {lo : Nat → Bool} {fo si : Nat → Nat} {it : Nat → Nat → Int32} {fd : Int32} (hN : 2200 < N) (hC : C7 c0 ad w n β tr st h ea eb lo fo si it fd) (p1 : Int32) : ∃ w', Ct l D c0 yX7_undo cX7_undo 2 (some .int) (rmF 2 42) [.ref (ad 0), .int p1] w (some (.int ((unA n p1).1))) w' ∧ C7 c0 ad w' ((unA n p1).2) β tr st h ea eb lo fo si it fd := by
  refine hC _ ?_
  intro typed texts comes coming came goes going wears worn rowOf looks minutes deep room look lift laid judgedNow manyIn goers goer liftedFor whens fronts laidTo chains outs aheads aheadOne aheadOther orders isThere forms sizes items moved finding hw hM hO hS hF
  subst hw
  subst hF
  obtain ⟨R, e, a, hT2⟩ := undo7   hM p1
  have k := kX7_undo l D c0 ad typed texts comes coming came goes going wears worn rowOf looks minutes deep room look lift laid judgedNow manyIn goers goer liftedFor whens fronts laidTo chains outs aheads aheadOne aheadOther orders isThere forms sizes items moved finding p1 e
  rw [a] at k
  exact ⟨_, k, fun _ g => g _ _ _ _ _ _ _ _ _ _ _ _ _ _ _ _ _ _ _ _ _ _ _ _ _ _ _ _ _ _ _ _ _ _ _ _ _ rfl hT2 hO hS rfl⟩
theorem s7_fault {N : Nat} (l : Launch) (D : va_G) {c0 : Nat → ClassId} {ad : Nat → Nat} {w : va_W} {n : Nat → Nat} {β tr : Nat → Nat → Nat} {st : Nat → Nat} {h : Nat} {ea eb : Nat → Nat} {lo : Nat → Bool} {fo si : Nat → Nat} {it : Nat → Nat → Int32} {fd : Int32} (hN : 2200 < N) (hC : C7 c0 ad w n β tr st h ea eb lo fo si it fd) (p1 : Int32) : ∃ w', Ct l D c0 yX7_fault cX7_fault 2 (some .int) (rmF 4 92) [.ref (ad 0), .int p1] w (some (.int (aFault n β p1))) w' ∧ C7 c0 ad w' n β tr st h ea eb lo fo si it fd := by
  refine hC _ ?_
  intro typed texts comes coming came goes going wears worn rowOf looks minutes deep room look lift laid judgedNow manyIn goers goer liftedFor whens fronts laidTo chains outs aheads aheadOne aheadOther orders isThere forms sizes items moved finding hw hM hO hS hF
  subst hw
  subst hF
  obtain ⟨R, e, a⟩ := fault7 (N := N)  (comes := comes) (coming := coming) (came := came) (goes := goes) (going := going) (wears := wears) (worn := worn) (by omega) hM.1 p1
  have k := kX7_fault l D c0 ad typed texts comes coming came goes going wears worn rowOf looks minutes deep room look lift laid judgedNow manyIn goers goer liftedFor whens fronts laidTo chains outs aheads aheadOne aheadOther orders isThere forms sizes items moved finding p1 (N := N) e
  rw [a] at k
  exact ⟨_, k, fun _ g => g _ _ _ _ _ _ _ _ _ _ _ _ _ _ _ _ _ _ _ _ _ _ _ _ _ _ _ _ _ _ _ _ _ _ _ _ _ rfl hM hO hS rfl⟩
theorem s7_guest {N : Nat} (l : Launch) (D : va_G) {c0 : Nat → ClassId} {ad : Nat → Nat} {w : va_W} {n : Nat → Nat} {β tr : Nat → Nat → Nat} {st : Nat → Nat} {h : Nat} {ea eb : Nat → Nat} {lo : Nat → Bool} {fo si : Nat → Nat} {it : Nat → Nat → Int32} {fd : Int32} (hN : 2200 < N) (hC : C7 c0 ad w n β tr st h ea eb lo fo si it fd) (p1 p2 p3 : Int32) : ∃ w', Ct l D c0 yX7_guest cX7_guest 5 (some .int) (rmF 2 42) [.ref (ad 0), .int p1, .int p2, .int p3] w (some (.int ((guA tr p1 p2 p3).1))) w' ∧ C7 c0 ad w' n β ((guA tr p1 p2 p3).2) st h ea eb lo fo si it fd := by
  refine hC _ ?_
  intro typed texts comes coming came goes going wears worn rowOf looks minutes deep room look lift laid judgedNow manyIn goers goer liftedFor whens fronts laidTo chains outs aheads aheadOne aheadOther orders isThere forms sizes items moved finding hw hM hO hS hF
  subst hw
  subst hF
  obtain ⟨R, e, a, hT2⟩ := guest7   hM p1 p2 p3
  have k := kX7_guest l D c0 ad typed texts comes coming came goes going wears worn rowOf looks minutes deep room look lift laid judgedNow manyIn goers goer liftedFor whens fronts laidTo chains outs aheads aheadOne aheadOther orders isThere forms sizes items moved finding p1 p2 p3 e
  rw [a] at k
  exact ⟨_, k, fun _ g => g _ _ _ _ _ _ _ _ _ _ _ _ _ _ _ _ _ _ _ _ _ _ _ _ _ _ _ _ _ _ _ _ _ _ _ _ _ rfl hT2 hO hS rfl⟩
theorem s7_set {N : Nat} (l : Launch) (D : va_G) {c0 : Nat → ClassId} {ad : Nat → Nat} {w : va_W} {n : Nat → Nat} {β tr : Nat → Nat → Nat} {st : Nat → Nat} {h : Nat} {ea eb : Nat → Nat} {lo : Nat → Bool} {fo si : Nat → Nat} {it : Nat → Nat → Int32} {fd : Int32} (hN : 2200 < N) (hC : C7 c0 ad w n β tr st h ea eb lo fo si it fd) (p1 p2 : Int32) : ∃ w', Ct l D c0 yX7_set cX7_set 5 (some .int) (rmF 1 22) [.ref (ad 0), .int p1, .int p2] w (some (.int ((seA st p1 p2).1))) w' ∧ C7 c0 ad w' n β tr ((seA st p1 p2).2) h ea eb lo fo si it fd := by
  refine hC _ ?_
  intro typed texts comes coming came goes going wears worn rowOf looks minutes deep room look lift laid judgedNow manyIn goers goer liftedFor whens fronts laidTo chains outs aheads aheadOne aheadOther orders isThere forms sizes items moved finding hw hM hO hS hF
  subst hw
  subst hF
  obtain ⟨R, e, a, hT2⟩ := set7   hM p1 p2
  have k := kX7_set l D c0 ad typed texts comes coming came goes going wears worn rowOf looks minutes deep room look lift laid judgedNow manyIn goers goer liftedFor whens fronts laidTo chains outs aheads aheadOne aheadOther orders isThere forms sizes items moved finding p1 p2 e
  rw [a] at k
  exact ⟨_, k, fun _ g => g _ _ _ _ _ _ _ _ _ _ _ _ _ _ _ _ _ _ _ _ _ _ _ _ _ _ _ _ _ _ _ _ _ _ _ _ _ rfl hT2 hO hS rfl⟩
theorem s7_read {N : Nat} (l : Launch) (D : va_G) {c0 : Nat → ClassId} {ad : Nat → Nat} {w : va_W} {n : Nat → Nat} {β tr : Nat → Nat → Nat} {st : Nat → Nat} {h : Nat} {ea eb : Nat → Nat} {lo : Nat → Bool} {fo si : Nat → Nat} {it : Nat → Nat → Int32} {fd : Int32} (hN : 2200 < N) (hC : C7 c0 ad w n β tr st h ea eb lo fo si it fd) (p1 : Int32) : ∃ w', Ct l D c0 yX7_read cX7_read 3 (some .int) (rmF 2 42) [.ref (ad 0), .int p1] w (some (.int ((reA lo si it tr fd p1).1))) w' ∧ C7 c0 ad w' n β ((reA lo si it tr fd p1).2.1) st h ea eb lo fo si it ((reA lo si it tr fd p1).2.2) := by
  refine hC _ ?_
  intro typed texts comes coming came goes going wears worn rowOf looks minutes deep room look lift laid judgedNow manyIn goers goer liftedFor whens fronts laidTo chains outs aheads aheadOne aheadOther orders isThere forms sizes items moved finding hw hM hO hS hF
  subst hw
  subst hF
  obtain ⟨R, e, a, hT2, hF2⟩ := read7 (N := N)   (fd := finding) (by omega) hM hS p1
  have k := kX7_read l D c0 ad typed texts comes coming came goes going wears worn rowOf looks minutes deep room look lift laid judgedNow manyIn goers goer liftedFor whens fronts laidTo chains outs aheads aheadOne aheadOther orders isThere forms sizes items moved finding p1 (N := N) e
  rw [a] at k
  exact ⟨_, k, fun _ g => g _ _ _ _ _ _ _ _ _ _ _ _ _ _ _ _ _ _ _ _ _ _ _ _ _ _ _ _ _ _ _ _ _ _ _ _ _ rfl hT2 hO hS hF2⟩
theorem s7_judged {N : Nat} (l : Launch) (D : va_G) {c0 : Nat → ClassId} {ad : Nat → Nat} {w : va_W} {n : Nat → Nat} {β tr : Nat → Nat → Nat} {st : Nat → Nat} {h : Nat} {ea eb : Nat → Nat} {lo : Nat → Bool} {fo si : Nat → Nat} {it : Nat → Nat → Int32} {fd : Int32} (hN : 2200 < N) (hC : C7 c0 ad w n β tr st h ea eb lo fo si it fd) : ∃ w', Ct l D c0 yX7_judged cX7_judged 1 (some .int) (rmF 7 155) [.ref (ad 0)] w (some (.int (J_G (tr 0) (lt β 0) (st 0) (tC n β)))) w' ∧ C7 c0 ad w' n β tr st h ea eb lo fo si it fd := by
  refine hC _ ?_
  intro typed texts comes coming came goes going wears worn rowOf looks minutes deep room look lift laid judgedNow manyIn goers goer liftedFor whens fronts laidTo chains outs aheads aheadOne aheadOther orders isThere forms sizes items moved finding hw hM hO hS hF
  subst hw
  subst hF
  obtain ⟨R, e, a⟩ := judged7p (N := N)  (comes := comes) (coming := coming) (came := came) (goes := goes) (going := going) (wears := wears) (worn := worn) (laid := laid) (judgedNow := judgedNow) (manyIn := manyIn) (by omega) hM
  have k := kX7_judged l D c0 ad typed texts comes coming came goes going wears worn rowOf looks minutes deep room look lift laid judgedNow manyIn goers goer liftedFor whens fronts laidTo chains outs aheads aheadOne aheadOther orders isThere forms sizes items moved finding  (N := N) e
  rw [a] at k
  exact ⟨_, k, fun _ g => g _ _ _ _ _ _ _ _ _ _ _ _ _ _ _ _ _ _ _ _ _ _ _ _ _ _ _ _ _ _ _ _ _ _ _ _ _ rfl hM hO hS rfl⟩
theorem s7_lies {N : Nat} (l : Launch) (D : va_G) {c0 : Nat → ClassId} {ad : Nat → Nat} {w : va_W} {n : Nat → Nat} {β tr : Nat → Nat → Nat} {st : Nat → Nat} {h : Nat} {ea eb : Nat → Nat} {lo : Nat → Bool} {fo si : Nat → Nat} {it : Nat → Nat → Int32} {fd : Int32} (hN : 2200 < N) (hC : C7 c0 ad w n β tr st h ea eb lo fo si it fd) (p1 p2 p3 : Int32) : ∃ w', Ct l D c0 yX7_lies cX7_lies 4 (some .int) (rmF 7 162) [.ref (ad 0), .int p1, .int p2, .int p3] w (some (.int (aLies n β (tr 0) (st 0) p1 p2 p3))) w' ∧ C7 c0 ad w' n β tr st h ea eb lo fo si it fd := by
  refine hC _ ?_
  intro typed texts comes coming came goes going wears worn rowOf looks minutes deep room look lift laid judgedNow manyIn goers goer liftedFor whens fronts laidTo chains outs aheads aheadOne aheadOther orders isThere forms sizes items moved finding hw hM hO hS hF
  subst hw
  subst hF
  obtain ⟨R, e, a⟩ := lies7 (N := N)  (comes := comes) (coming := coming) (came := came) (goes := goes) (going := going) (wears := wears) (worn := worn) (laid := laid) (judgedNow := judgedNow) (manyIn := manyIn) (by omega) hM p1 p2 p3
  have k := kX7_lies l D c0 ad typed texts comes coming came goes going wears worn rowOf looks minutes deep room look lift laid judgedNow manyIn goers goer liftedFor whens fronts laidTo chains outs aheads aheadOne aheadOther orders isThere forms sizes items moved finding p1 p2 p3 (N := N) e
  rw [a] at k
  exact ⟨_, k, fun _ g => g _ _ _ _ _ _ _ _ _ _ _ _ _ _ _ _ _ _ _ _ _ _ _ _ _ _ _ _ _ _ _ _ _ _ _ _ _ rfl hM hO hS rfl⟩
theorem s7_lifted {N : Nat} (l : Launch) (D : va_G) {c0 : Nat → ClassId} {ad : Nat → Nat} {w : va_W} {n : Nat → Nat} {β tr : Nat → Nat → Nat} {st : Nat → Nat} {h : Nat} {ea eb : Nat → Nat} {lo : Nat → Bool} {fo si : Nat → Nat} {it : Nat → Nat → Int32} {fd : Int32} (hN : 2200 < N) (hC : C7 c0 ad w n β tr st h ea eb lo fo si it fd) (p1 : Int32) : ∃ w', Ct l D c0 yX7_lifted cX7_lifted 2 (some .int) (rmF 8 183) [.ref (ad 0), .int p1] w (some (.int (aLift n β (tr 0) (st 0) p1))) w' ∧ C7 c0 ad w' n β tr st h ea eb lo fo si it fd := by
  refine hC _ ?_
  intro typed texts comes coming came goes going wears worn rowOf looks minutes deep room look lift laid judgedNow manyIn goers goer liftedFor whens fronts laidTo chains outs aheads aheadOne aheadOther orders isThere forms sizes items moved finding hw hM hO hS hF
  subst hw
  subst hF
  obtain ⟨R, e, a⟩ := lifted7 (N := N)  (comes := comes) (coming := coming) (came := came) (goes := goes) (going := going) (wears := wears) (worn := worn) (laid := laid) (judgedNow := judgedNow) (manyIn := manyIn) (goers := goers) (goer := goer) (lfo := liftedFor) (by omega) hM p1
  have k := kX7_lifted l D c0 ad typed texts comes coming came goes going wears worn rowOf looks minutes deep room look lift laid judgedNow manyIn goers goer liftedFor whens fronts laidTo chains outs aheads aheadOne aheadOther orders isThere forms sizes items moved finding p1 (N := N) e
  rw [a] at k
  exact ⟨_, k, fun _ g => g _ _ _ _ _ _ _ _ _ _ _ _ _ _ _ _ _ _ _ _ _ _ _ _ _ _ _ _ _ _ _ _ _ _ _ _ _ rfl hM hO hS rfl⟩
theorem s7_rows {N : Nat} (l : Launch) (D : va_G) {c0 : Nat → ClassId} {ad : Nat → Nat} {w : va_W} {n : Nat → Nat} {β tr : Nat → Nat → Nat} {st : Nat → Nat} {h : Nat} {ea eb : Nat → Nat} {lo : Nat → Bool} {fo si : Nat → Nat} {it : Nat → Nat → Int32} {fd : Int32} (hN : 2200 < N) (hC : C7 c0 ad w n β tr st h ea eb lo fo si it fd) (p1 : Int32) : ∃ w', Ct l D c0 yX7_rows cX7_rows 2 (some .int) (rmF 7 161) [.ref (ad 0), .int p1] w (some (.int (aRows n β p1))) w' ∧ C7 c0 ad w' n β tr st h ea eb lo fo si it fd := by
  refine hC _ ?_
  intro typed texts comes coming came goes going wears worn rowOf looks minutes deep room look lift laid judgedNow manyIn goers goer liftedFor whens fronts laidTo chains outs aheads aheadOne aheadOther orders isThere forms sizes items moved finding hw hM hO hS hF
  subst hw
  subst hF
  obtain ⟨R, e, a⟩ := rows7 (N := N)  (comes := comes) (coming := coming) (came := came) (goes := goes) (going := going) (wears := wears) (worn := worn) (whens := whens) (fronts := fronts) (by omega) hM.1 p1
  have k := kX7_rows l D c0 ad typed texts comes coming came goes going wears worn rowOf looks minutes deep room look lift laid judgedNow manyIn goers goer liftedFor whens fronts laidTo chains outs aheads aheadOne aheadOther orders isThere forms sizes items moved finding p1 (N := N) e
  rw [a] at k
  exact ⟨_, k, fun _ g => g _ _ _ _ _ _ _ _ _ _ _ _ _ _ _ _ _ _ _ _ _ _ _ _ _ _ _ _ _ _ _ _ _ _ _ _ _ rfl hM hO hS rfl⟩
theorem s7_proof {N : Nat} (l : Launch) (D : va_G) {c0 : Nat → ClassId} {ad : Nat → Nat} {w : va_W} {n : Nat → Nat} {β tr : Nat → Nat → Nat} {st : Nat → Nat} {h : Nat} {ea eb : Nat → Nat} {lo : Nat → Bool} {fo si : Nat → Nat} {it : Nat → Nat → Int32} {fd : Int32} (hN : 2200 < N) (hC : C7 c0 ad w n β tr st h ea eb lo fo si it fd) (p1 : Int32) : ∃ w', Ct l D c0 yX7_proof cX7_proof 2 (some .int) (rmF 7 163) [.ref (ad 0), .int p1] w (some (.int (aProof n β p1))) w' ∧ C7 c0 ad w' n β tr st h ea eb lo fo si it fd := by
  refine hC _ ?_
  intro typed texts comes coming came goes going wears worn rowOf looks minutes deep room look lift laid judgedNow manyIn goers goer liftedFor whens fronts laidTo chains outs aheads aheadOne aheadOther orders isThere forms sizes items moved finding hw hM hO hS hF
  subst hw
  subst hF
  obtain ⟨R, e, a⟩ := proof7 (N := N)  (comes := comes) (coming := coming) (came := came) (goes := goes) (going := going) (wears := wears) (worn := worn) (whens := whens) (ch := chains) (by omega) hM.1 p1
  have k := kX7_proof l D c0 ad typed texts comes coming came goes going wears worn rowOf looks minutes deep room look lift laid judgedNow manyIn goers goer liftedFor whens fronts laidTo chains outs aheads aheadOne aheadOther orders isThere forms sizes items moved finding p1 (N := N) e
  rw [a] at k
  exact ⟨_, k, fun _ g => g _ _ _ _ _ _ _ _ _ _ _ _ _ _ _ _ _ _ _ _ _ _ _ _ _ _ _ _ _ _ _ _ _ _ _ _ _ rfl hM hO hS rfl⟩
theorem s7_least {N : Nat} (l : Launch) (D : va_G) {c0 : Nat → ClassId} {ad : Nat → Nat} {w : va_W} {n : Nat → Nat} {β tr : Nat → Nat → Nat} {st : Nat → Nat} {h : Nat} {ea eb : Nat → Nat} {lo : Nat → Bool} {fo si : Nat → Nat} {it : Nat → Nat → Int32} {fd : Int32} (hN : 2200 < N) (hC : C7 c0 ad w n β tr st h ea eb lo fo si it fd) (p1 p2 : Int32) : ∃ w', Ct l D c0 yX7_least cX7_least 3 (some .int) (rmF 7 165) [.ref (ad 0), .int p1, .int p2] w (some (.int (aLeast n β p1 p2))) w' ∧ C7 c0 ad w' n β tr st h ea eb lo fo si it fd := by
  refine hC _ ?_
  intro typed texts comes coming came goes going wears worn rowOf looks minutes deep room look lift laid judgedNow manyIn goers goer liftedFor whens fronts laidTo chains outs aheads aheadOne aheadOther orders isThere forms sizes items moved finding hw hM hO hS hF
  subst hw
  subst hF
  obtain ⟨R, e, a⟩ := least7 (N := N)  (comes := comes) (coming := coming) (came := came) (goes := goes) (going := going) (wears := wears) (worn := worn) (whens := whens) (laid := laidTo) hN hM.1 p1 p2
  have k := kX7_least l D c0 ad typed texts comes coming came goes going wears worn rowOf looks minutes deep room look lift laid judgedNow manyIn goers goer liftedFor whens fronts laidTo chains outs aheads aheadOne aheadOther orders isThere forms sizes items moved finding p1 p2 (N := N) e
  rw [a] at k
  exact ⟨_, k, fun _ g => g _ _ _ _ _ _ _ _ _ _ _ _ _ _ _ _ _ _ _ _ _ _ _ _ _ _ _ _ _ _ _ _ _ _ _ _ _ rfl hM hO hS rfl⟩
theorem s7_rule {N : Nat} (l : Launch) (D : va_G) {c0 : Nat → ClassId} {ad : Nat → Nat} {w : va_W} {n : Nat → Nat} {β tr : Nat → Nat → Nat} {st : Nat → Nat} {h : Nat} {ea eb : Nat → Nat} {lo : Nat → Bool} {fo si : Nat → Nat} {it : Nat → Nat → Int32} {fd : Int32} (hN : 2200 < N) (hC : C7 c0 ad w n β tr st h ea eb lo fo si it fd) (p1 p2 : Int32) : ∃ w', Ct l D c0 yX7_rule cX7_rule 3 (some .int) (rmF 8 183) [.ref (ad 0), .int p1, .int p2] w (some (.int (aRule n β p1 p2))) w' ∧ C7 c0 ad w' n β tr st h ea eb lo fo si it fd := by
  refine hC _ ?_
  intro typed texts comes coming came goes going wears worn rowOf looks minutes deep room look lift laid judgedNow manyIn goers goer liftedFor whens fronts laidTo chains outs aheads aheadOne aheadOther orders isThere forms sizes items moved finding hw hM hO hS hF
  subst hw
  subst hF
  obtain ⟨R, e, a⟩ := rule7 (N := N)  (comes := comes) (coming := coming) (came := came) (goes := goes) (going := going) (wears := wears) (worn := worn) (whens := whens) (manyIn := manyIn) (fronts := fronts) (laid := laidTo) (by omega) hM.1 p1 p2
  have k := kX7_rule l D c0 ad typed texts comes coming came goes going wears worn rowOf looks minutes deep room look lift laid judgedNow manyIn goers goer liftedFor whens fronts laidTo chains outs aheads aheadOne aheadOther orders isThere forms sizes items moved finding p1 p2 (N := N) e
  rw [a] at k
  exact ⟨_, k, fun _ g => g _ _ _ _ _ _ _ _ _ _ _ _ _ _ _ _ _ _ _ _ _ _ _ _ _ _ _ _ _ _ _ _ _ _ _ _ _ rfl hM hO hS rfl⟩
theorem s7_best {N : Nat} (l : Launch) (D : va_G) {c0 : Nat → ClassId} {ad : Nat → Nat} {w : va_W} {n : Nat → Nat} {β tr : Nat → Nat → Nat} {st : Nat → Nat} {h : Nat} {ea eb : Nat → Nat} {lo : Nat → Bool} {fo si : Nat → Nat} {it : Nat → Nat → Int32} {fd : Int32} (hN : 2200 < N) (hC : C7 c0 ad w n β tr st h ea eb lo fo si it fd) (p1 : Int32) : ∃ w', Ct l D c0 yX7_best cX7_best 2 (some .int) (rmF 9 208) [.ref (ad 0), .int p1] w (some (.int (aBest n β p1))) w' ∧ C7 c0 ad w' n β tr st h ea eb lo fo si it fd := by
  refine hC _ ?_
  intro typed texts comes coming came goes going wears worn rowOf looks minutes deep room look lift laid judgedNow manyIn goers goer liftedFor whens fronts laidTo chains outs aheads aheadOne aheadOther orders isThere forms sizes items moved finding hw hM hO hS hF
  subst hw
  subst hF
  obtain ⟨R, e, a⟩ := best7 (N := N)  (comes := comes) (coming := coming) (came := came) (goes := goes) (going := going) (wears := wears) (worn := worn) (whens := whens) (manyIn := manyIn) (fronts := fronts) (laid := laidTo) (by omega) hM.1 p1
  have k := kX7_best l D c0 ad typed texts comes coming came goes going wears worn rowOf looks minutes deep room look lift laid judgedNow manyIn goers goer liftedFor whens fronts laidTo chains outs aheads aheadOne aheadOther orders isThere forms sizes items moved finding p1 (N := N) e
  rw [a] at k
  exact ⟨_, k, fun _ g => g _ _ _ _ _ _ _ _ _ _ _ _ _ _ _ _ _ _ _ _ _ _ _ _ _ _ _ _ _ _ _ _ _ _ _ _ _ rfl hM hO hS rfl⟩
theorem s7_gap {N : Nat} (l : Launch) (D : va_G) {c0 : Nat → ClassId} {ad : Nat → Nat} {w : va_W} {n : Nat → Nat} {β tr : Nat → Nat → Nat} {st : Nat → Nat} {h : Nat} {ea eb : Nat → Nat} {lo : Nat → Bool} {fo si : Nat → Nat} {it : Nat → Nat → Int32} {fd : Int32} (hN : 2200 < N) (hC : C7 c0 ad w n β tr st h ea eb lo fo si it fd) (p1 : Int32) : ∃ w', Ct l D c0 yX7_gap cX7_gap 2 (some .int) (rmF 8 190) [.ref (ad 0), .int p1] w (some (.int (aGap n β p1))) w' ∧ C7 c0 ad w' n β tr st h ea eb lo fo si it fd := by
  refine hC _ ?_
  intro typed texts comes coming came goes going wears worn rowOf looks minutes deep room look lift laid judgedNow manyIn goers goer liftedFor whens fronts laidTo chains outs aheads aheadOne aheadOther orders isThere forms sizes items moved finding hw hM hO hS hF
  subst hw
  subst hF
  obtain ⟨R, e, a⟩ := gap7 (N := N)  (comes := comes) (coming := coming) (came := came) (goes := goes) (going := going) (wears := wears) (worn := worn) (whens := whens) (manyIn := manyIn) (fronts := fronts) (laid := laidTo) hN hM.1 p1
  have k := kX7_gap l D c0 ad typed texts comes coming came goes going wears worn rowOf looks minutes deep room look lift laid judgedNow manyIn goers goer liftedFor whens fronts laidTo chains outs aheads aheadOne aheadOther orders isThere forms sizes items moved finding p1 (N := N) e
  rw [a] at k
  exact ⟨_, k, fun _ g => g _ _ _ _ _ _ _ _ _ _ _ _ _ _ _ _ _ _ _ _ _ _ _ _ _ _ _ _ _ _ _ _ _ _ _ _ _ rfl hM hO hS rfl⟩
theorem s7_mean {N : Nat} (l : Launch) (D : va_G) {c0 : Nat → ClassId} {ad : Nat → Nat} {w : va_W} {n : Nat → Nat} {β tr : Nat → Nat → Nat} {st : Nat → Nat} {h : Nat} {ea eb : Nat → Nat} {lo : Nat → Bool} {fo si : Nat → Nat} {it : Nat → Nat → Int32} {fd : Int32} (hN : 2200 < N) (hC : C7 c0 ad w n β tr st h ea eb lo fo si it fd) (p1 p2 : Int32) : ∃ w', Ct l D c0 yX7_mean cX7_mean 3 (some .long) (rmF 8 186) [.ref (ad 0), .int p1, .int p2] w (some (.long (aMean n β (tr 0) (st 0) p1 p2))) w' ∧ C7 c0 ad w' n β tr st h ea eb lo fo si it fd := by
  refine hC _ ?_
  intro typed texts comes coming came goes going wears worn rowOf looks minutes deep room look lift laid judgedNow manyIn goers goer liftedFor whens fronts laidTo chains outs aheads aheadOne aheadOther orders isThere forms sizes items moved finding hw hM hO hS hF
  subst hw
  subst hF
  obtain ⟨R, e, a⟩ := mean7 (N := N)  (comes := comes) (coming := coming) (came := came) (goes := goes) (going := going) (wears := wears) (worn := worn) (laid := laid) (judgedNow := judgedNow) (manyIn := manyIn) (goers := goers) (goer := goer) (lfo := liftedFor) (by omega) hM p1 p2
  have k := kX7_mean l D c0 ad typed texts comes coming came goes going wears worn rowOf looks minutes deep room look lift laid judgedNow manyIn goers goer liftedFor whens fronts laidTo chains outs aheads aheadOne aheadOther orders isThere forms sizes items moved finding p1 p2 (N := N) e
  rw [a] at k
  exact ⟨_, k, fun _ g => g _ _ _ _ _ _ _ _ _ _ _ _ _ _ _ _ _ _ _ _ _ _ _ _ _ _ _ _ _ _ _ _ _ _ _ _ _ rfl hM hO hS rfl⟩
theorem s7_heap {N : Nat} (l : Launch) (D : va_G) {c0 : Nat → ClassId} {ad : Nat → Nat} {w : va_W} {n : Nat → Nat} {β tr : Nat → Nat → Nat} {st : Nat → Nat} {h : Nat} {ea eb : Nat → Nat} {lo : Nat → Bool} {fo si : Nat → Nat} {it : Nat → Nat → Int32} {fd : Int32} (hN : 2200 < N) (hC : C7 c0 ad w n β tr st h ea eb lo fo si it fd) (p1 p2 : Int32) : ∃ w', Ct l D c0 yX7_heap cX7_heap 4 (some .long) (rmF 7 160) [.ref (ad 0), .int p1, .int p2] w (some (.long (aHeap (tcs n β (tr 0) (st 0)) (cnt (LSs (tr 0) (st 0) n β) 10) p1 p2))) w' ∧ C7 c0 ad w' n β tr st h ea eb lo fo si it fd := by
  refine hC _ ?_
  intro typed texts comes coming came goes going wears worn rowOf looks minutes deep room look lift laid judgedNow manyIn goers goer liftedFor whens fronts laidTo chains outs aheads aheadOne aheadOther orders isThere forms sizes items moved finding hw hM hO hS hF
  subst hw
  subst hF
  obtain ⟨R, e, a⟩ := heap7 (N := N)  (comes := comes) (coming := coming) (came := came) (goes := goes) (going := going) (wears := wears) (worn := worn) (laid := laid) (judgedNow := judgedNow) (manyIn := manyIn) (goers := goers) (goer := goer) (lfo := liftedFor) (by omega) hM p1 p2
  have k := kX7_heap l D c0 ad typed texts comes coming came goes going wears worn rowOf looks minutes deep room look lift laid judgedNow manyIn goers goer liftedFor whens fronts laidTo chains outs aheads aheadOne aheadOther orders isThere forms sizes items moved finding p1 p2 (N := N) e
  rw [a] at k
  exact ⟨_, k, fun _ g => g _ _ _ _ _ _ _ _ _ _ _ _ _ _ _ _ _ _ _ _ _ _ _ _ _ _ _ _ _ _ _ _ _ _ _ _ _ rfl hM hO hS rfl⟩
theorem s7_out {N : Nat} (l : Launch) (D : va_G) {c0 : Nat → ClassId} {ad : Nat → Nat} {w : va_W} {n : Nat → Nat} {β tr : Nat → Nat → Nat} {st : Nat → Nat} {h : Nat} {ea eb : Nat → Nat} {lo : Nat → Bool} {fo si : Nat → Nat} {it : Nat → Nat → Int32} {fd : Int32} (hN : 2200 < N) (hC : C7 c0 ad w n β tr st h ea eb lo fo si it fd) (p1 : Int32) : ∃ w', Ct l D c0 yX7_out cX7_out 2 (some .int) (rmF 8 185) [.ref (ad 0), .int p1] w (some (.int (aOut n β tr st p1))) w' ∧ C7 c0 ad w' n β tr st h ea eb lo fo si it fd := by
  refine hC _ ?_
  intro typed texts comes coming came goes going wears worn rowOf looks minutes deep room look lift laid judgedNow manyIn goers goer liftedFor whens fronts laidTo chains outs aheads aheadOne aheadOther orders isThere forms sizes items moved finding hw hM hO hS hF
  subst hw
  subst hF
  obtain ⟨R, e, a⟩ := out7 (N := N)  (comes := comes) (coming := coming) (came := came) (goes := goes) (going := going) (wears := wears) (worn := worn) (laid := laid) (judgedNow := judgedNow) (manyIn := manyIn) (goers := goers) (goer := goer) (lfo := liftedFor) (outs := outs) hN hM p1
  have k := kX7_out l D c0 ad typed texts comes coming came goes going wears worn rowOf looks minutes deep room look lift laid judgedNow manyIn goers goer liftedFor whens fronts laidTo chains outs aheads aheadOne aheadOther orders isThere forms sizes items moved finding p1 (N := N) e
  rw [a] at k
  exact ⟨_, k, fun _ g => g _ _ _ _ _ _ _ _ _ _ _ _ _ _ _ _ _ _ _ _ _ _ _ _ _ _ _ _ _ _ _ _ _ _ _ _ _ rfl hM hO hS rfl⟩
theorem s7_wrong {N : Nat} (l : Launch) (D : va_G) {c0 : Nat → ClassId} {ad : Nat → Nat} {w : va_W} {n : Nat → Nat} {β tr : Nat → Nat → Nat} {st : Nat → Nat} {h : Nat} {ea eb : Nat → Nat} {lo : Nat → Bool} {fo si : Nat → Nat} {it : Nat → Nat → Int32} {fd : Int32} (hN : 2200 < N) (hC : C7 c0 ad w n β tr st h ea eb lo fo si it fd) (p1 : Int32) : ∃ w', Ct l D c0 yX7_wrong cX7_wrong 2 (some .int) (rmF 5 113) [.ref (ad 0), .int p1] w (some (.int (aWr N n β p1))) w' ∧ C7 c0 ad w' n β tr st h ea eb lo fo si it fd := by
  refine hC _ ?_
  intro typed texts comes coming came goes going wears worn rowOf looks minutes deep room look lift laid judgedNow manyIn goers goer liftedFor whens fronts laidTo chains outs aheads aheadOne aheadOther orders isThere forms sizes items moved finding hw hM hO hS hF
  subst hw
  subst hF
  obtain ⟨R, e, a⟩ := wr7 (N := N)  (comes := comes) (coming := coming) (came := came) (goes := goes) (going := going) (wears := wears) (worn := worn) (by omega) hM.1 p1
  have k := kX7_wrong l D c0 ad typed texts comes coming came goes going wears worn rowOf looks minutes deep room look lift laid judgedNow manyIn goers goer liftedFor whens fronts laidTo chains outs aheads aheadOne aheadOther orders isThere forms sizes items moved finding p1 (N := N) e
  rw [a] at k
  exact ⟨_, k, fun _ g => g _ _ _ _ _ _ _ _ _ _ _ _ _ _ _ _ _ _ _ _ _ _ _ _ _ _ _ _ _ _ _ _ _ _ _ _ _ rfl hM hO hS rfl⟩
theorem s7_swaps {N : Nat} (l : Launch) (D : va_G) {c0 : Nat → ClassId} {ad : Nat → Nat} {w : va_W} {n : Nat → Nat} {β tr : Nat → Nat → Nat} {st : Nat → Nat} {h : Nat} {ea eb : Nat → Nat} {lo : Nat → Bool} {fo si : Nat → Nat} {it : Nat → Nat → Int32} {fd : Int32} (hN : 2200 < N) (hC : C7 c0 ad w n β tr st h ea eb lo fo si it fd) : ∃ w', Ct l D c0 yX7_swaps cX7_swaps 1 (some .int) (rmF 6 137) [.ref (ad 0)] w (some (.int (nI (tW n β - (rk (lt β 2) (tW n β) (tW n β)).1)))) w' ∧ C7 c0 ad w' n β tr st h ea eb lo fo si it fd := by
  refine hC _ ?_
  intro typed texts comes coming came goes going wears worn rowOf looks minutes deep room look lift laid judgedNow manyIn goers goer liftedFor whens fronts laidTo chains outs aheads aheadOne aheadOther orders isThere forms sizes items moved finding hw hM hO hS hF
  subst hw
  subst hF
  obtain ⟨R, e, a⟩ := swaps7 (N := N)  (comes := comes) (coming := coming) (came := came) (goes := goes) (going := going) (wears := wears) (worn := worn) (by omega) hM.1
  have k := kX7_swaps l D c0 ad typed texts comes coming came goes going wears worn rowOf looks minutes deep room look lift laid judgedNow manyIn goers goer liftedFor whens fronts laidTo chains outs aheads aheadOne aheadOther orders isThere forms sizes items moved finding  (N := N) e
  rw [a] at k
  exact ⟨_, k, fun _ g => g _ _ _ _ _ _ _ _ _ _ _ _ _ _ _ _ _ _ _ _ _ _ _ _ _ _ _ _ _ _ _ _ _ _ _ _ _ rfl hM hO hS rfl⟩
theorem s7_alike {N : Nat} (l : Launch) (D : va_G) {c0 : Nat → ClassId} {ad : Nat → Nat} {w : va_W} {n : Nat → Nat} {β tr : Nat → Nat → Nat} {st : Nat → Nat} {h : Nat} {ea eb : Nat → Nat} {lo : Nat → Bool} {fo si : Nat → Nat} {it : Nat → Nat → Int32} {fd : Int32} (hN : 2200 < N) (hC : C7 c0 ad w n β tr st h ea eb lo fo si it fd) (p1 : Int32) : ∃ w', Ct l D c0 yX7_alike cX7_alike 2 (some .long) (rmF 6 149) [.ref (ad 0), .int p1] w (some (.long (aAlike n β (tr 1) p1))) w' ∧ C7 c0 ad w' n β tr st h ea eb lo fo si it fd := by
  refine hC _ ?_
  intro typed texts comes coming came goes going wears worn rowOf looks minutes deep room look lift laid judgedNow manyIn goers goer liftedFor whens fronts laidTo chains outs aheads aheadOne aheadOther orders isThere forms sizes items moved finding hw hM hO hS hF
  subst hw
  subst hF
  obtain ⟨R, e, a⟩ := alike7 (N := N)  (comes := comes) (coming := coming) (came := came) (goes := goes) (going := going) (wears := wears) (worn := worn) (look := tr 1) (by omega) hM.1 (fun g hg => (hM.2.1 g hg).2.1) p1
  have k := kX7_alike l D c0 ad typed texts comes coming came goes going wears worn rowOf looks minutes deep room look lift laid judgedNow manyIn goers goer liftedFor whens fronts laidTo chains outs aheads aheadOne aheadOther orders isThere forms sizes items moved finding p1 (N := N) e
  rw [a] at k
  exact ⟨_, k, fun _ g => g _ _ _ _ _ _ _ _ _ _ _ _ _ _ _ _ _ _ _ _ _ _ _ _ _ _ _ _ _ _ _ _ _ _ _ _ _ rfl hM hO hS rfl⟩
theorem s7_ahead {N : Nat} (l : Launch) (D : va_G) {c0 : Nat → ClassId} {ad : Nat → Nat} {w : va_W} {n : Nat → Nat} {β tr : Nat → Nat → Nat} {st : Nat → Nat} {h : Nat} {ea eb : Nat → Nat} {lo : Nat → Bool} {fo si : Nat → Nat} {it : Nat → Nat → Int32} {fd : Int32} (hN : 2200 < N) (hC : C7 c0 ad w n β tr st h ea eb lo fo si it fd) (p1 p2 : Int32) : ∃ w', Ct l D c0 yX7_ahead cX7_ahead 3 (some .int) (rmF 2 42) [.ref (ad 0), .int p1, .int p2] w (some (.int ((ahA h ea eb p1 p2).1))) w' ∧ C7 c0 ad w' n β tr st ((ahA h ea eb p1 p2).2.1) ((ahA h ea eb p1 p2).2.2.1) ((ahA h ea eb p1 p2).2.2.2) lo fo si it fd := by
  refine hC _ ?_
  intro typed texts comes coming came goes going wears worn rowOf looks minutes deep room look lift laid judgedNow manyIn goers goer liftedFor whens fronts laidTo chains outs aheads aheadOne aheadOther orders isThere forms sizes items moved finding hw hM hO hS hF
  subst hw
  subst hF
  obtain ⟨R, e, a, hO2⟩ := ahead7   hO p1 p2
  have k := kX7_ahead l D c0 ad typed texts comes coming came goes going wears worn rowOf looks minutes deep room look lift laid judgedNow manyIn goers goer liftedFor whens fronts laidTo chains outs aheads aheadOne aheadOther orders isThere forms sizes items moved finding p1 p2 e
  rw [a] at k
  exact ⟨_, k, fun _ g => g _ _ _ _ _ _ _ _ _ _ _ _ _ _ _ _ _ _ _ _ _ _ _ _ _ _ _ _ _ _ _ _ _ _ _ _ _ rfl hM hO2 hS rfl⟩
theorem s7_forget {N : Nat} (l : Launch) (D : va_G) {c0 : Nat → ClassId} {ad : Nat → Nat} {w : va_W} {n : Nat → Nat} {β tr : Nat → Nat → Nat} {st : Nat → Nat} {h : Nat} {ea eb : Nat → Nat} {lo : Nat → Bool} {fo si : Nat → Nat} {it : Nat → Nat → Int32} {fd : Int32} (hN : 2200 < N) (hC : C7 c0 ad w n β tr st h ea eb lo fo si it fd) : ∃ w', Ct l D c0 yX7_forget cX7_forget 2 (some .int) (rmF 0 0) [.ref (ad 0)] w (some (.int (nI h))) w' ∧ C7 c0 ad w' n β tr st (0) ea eb lo fo si it fd := by
  refine hC _ ?_
  intro typed texts comes coming came goes going wears worn rowOf looks minutes deep room look lift laid judgedNow manyIn goers goer liftedFor whens fronts laidTo chains outs aheads aheadOne aheadOther orders isThere forms sizes items moved finding hw hM hO hS hF
  subst hw
  subst hF
  obtain ⟨R, e, a, hO2⟩ := forget7   hO
  have k := kX7_forget l D c0 ad typed texts comes coming came goes going wears worn rowOf looks minutes deep room look lift laid judgedNow manyIn goers goer liftedFor whens fronts laidTo chains outs aheads aheadOne aheadOther orders isThere forms sizes items moved finding  e
  rw [a] at k
  exact ⟨_, k, fun _ g => g _ _ _ _ _ _ _ _ _ _ _ _ _ _ _ _ _ _ _ _ _ _ _ _ _ _ _ _ _ _ _ _ _ _ _ _ _ rfl hM hO2 hS rfl⟩
theorem s7_fits {N : Nat} (l : Launch) (D : va_G) {c0 : Nat → ClassId} {ad : Nat → Nat} {w : va_W} {n : Nat → Nat} {β tr : Nat → Nat → Nat} {st : Nat → Nat} {h : Nat} {ea eb : Nat → Nat} {lo : Nat → Bool} {fo si : Nat → Nat} {it : Nat → Nat → Int32} {fd : Int32} (hN : 2200 < N) (hC : C7 c0 ad w n β tr st h ea eb lo fo si it fd) (p1 : Int32) : ∃ w', Ct l D c0 yX7_fits cX7_fits 2 (some .long) (rmF 6 137) [.ref (ad 0), .int p1] w (some (.long (aFits n β h ea eb p1))) w' ∧ C7 c0 ad w' n β tr st h ea eb lo fo si it fd := by
  refine hC _ ?_
  intro typed texts comes coming came goes going wears worn rowOf looks minutes deep room look lift laid judgedNow manyIn goers goer liftedFor whens fronts laidTo chains outs aheads aheadOne aheadOther orders isThere forms sizes items moved finding hw hM hO hS hF
  subst hw
  subst hF
  obtain ⟨R, e, a⟩ := fits7 (N := N)  (comes := comes) (coming := coming) (came := came) (goes := goes) (going := going) (wears := wears) (worn := worn) (orders := orders) hN hM.1 hO p1
  have k := kX7_fits l D c0 ad typed texts comes coming came goes going wears worn rowOf looks minutes deep room look lift laid judgedNow manyIn goers goer liftedFor whens fronts laidTo chains outs aheads aheadOne aheadOther orders isThere forms sizes items moved finding p1 (N := N) e
  rw [a] at k
  exact ⟨_, k, fun _ g => g _ _ _ _ _ _ _ _ _ _ _ _ _ _ _ _ _ _ _ _ _ _ _ _ _ _ _ _ _ _ _ _ _ _ _ _ _ rfl hM hO hS rfl⟩
theorem s7_sure {N : Nat} (l : Launch) (D : va_G) {c0 : Nat → ClassId} {ad : Nat → Nat} {w : va_W} {n : Nat → Nat} {β tr : Nat → Nat → Nat} {st : Nat → Nat} {h : Nat} {ea eb : Nat → Nat} {lo : Nat → Bool} {fo si : Nat → Nat} {it : Nat → Nat → Int32} {fd : Int32} (hN : 2200 < N) (hC : C7 c0 ad w n β tr st h ea eb lo fo si it fd) (p1 p2 p3 : Int32) : ∃ w', Ct l D c0 yX7_sure cX7_sure 5 (some .int) (rmF 7 162) [.ref (ad 0), .int p1, .int p2, .int p3] w (some (.int (aSure n β h ea eb p1 p2 p3))) w' ∧ C7 c0 ad w' n β tr st h ea eb lo fo si it fd := by
  refine hC _ ?_
  intro typed texts comes coming came goes going wears worn rowOf looks minutes deep room look lift laid judgedNow manyIn goers goer liftedFor whens fronts laidTo chains outs aheads aheadOne aheadOther orders isThere forms sizes items moved finding hw hM hO hS hF
  subst hw
  subst hF
  obtain ⟨R, e, a, hO2⟩ := sure7 (N := N)  (comes := comes) (coming := coming) (came := came) (goes := goes) (going := going) (wears := wears) (worn := worn) (orders := orders) hN hM.1 hO p1 p2 p3
  have k := kX7_sure l D c0 ad typed texts comes coming came goes going wears worn rowOf looks minutes deep room look lift laid judgedNow manyIn goers goer liftedFor whens fronts laidTo chains outs aheads aheadOne aheadOther orders isThere forms sizes items moved finding p1 p2 p3 (N := N) e
  rw [a] at k
  exact ⟨_, k, fun _ g => g _ _ _ _ _ _ _ _ _ _ _ _ _ _ _ _ _ _ _ _ _ _ _ _ _ _ _ _ _ _ _ _ _ _ _ _ _ rfl hM hO2 hS rfl⟩
theorem s7_firsts {N : Nat} (l : Launch) (D : va_G) {c0 : Nat → ClassId} {ad : Nat → Nat} {w : va_W} {n : Nat → Nat} {β tr : Nat → Nat → Nat} {st : Nat → Nat} {h : Nat} {ea eb : Nat → Nat} {lo : Nat → Bool} {fo si : Nat → Nat} {it : Nat → Nat → Int32} {fd : Int32} (hN : 2200 < N) (hC : C7 c0 ad w n β tr st h ea eb lo fo si it fd) (p1 : Int32) : ∃ w', Ct l D c0 yX7_firsts cX7_firsts 2 (some .int) (rmF 7 160) [.ref (ad 0), .int p1] w (some (.int (aFirsts n β h ea eb p1))) w' ∧ C7 c0 ad w' n β tr st h ea eb lo fo si it fd := by
  refine hC _ ?_
  intro typed texts comes coming came goes going wears worn rowOf looks minutes deep room look lift laid judgedNow manyIn goers goer liftedFor whens fronts laidTo chains outs aheads aheadOne aheadOther orders isThere forms sizes items moved finding hw hM hO hS hF
  subst hw
  subst hF
  obtain ⟨R, e, a⟩ := firsts7 (N := N)  (comes := comes) (coming := coming) (came := came) (goes := goes) (going := going) (wears := wears) (worn := worn) (orders := orders) hN hM.1 hO p1
  have k := kX7_firsts l D c0 ad typed texts comes coming came goes going wears worn rowOf looks minutes deep room look lift laid judgedNow manyIn goers goer liftedFor whens fronts laidTo chains outs aheads aheadOne aheadOther orders isThere forms sizes items moved finding p1 (N := N) e
  rw [a] at k
  exact ⟨_, k, fun _ g => g _ _ _ _ _ _ _ _ _ _ _ _ _ _ _ _ _ _ _ _ _ _ _ _ _ _ _ _ _ _ _ _ _ _ _ _ _ rfl hM hO hS rfl⟩
theorem s7_night {N : Nat} (l : Launch) (D : va_G) {c0 : Nat → ClassId} {ad : Nat → Nat} {w : va_W} {n : Nat → Nat} {β tr : Nat → Nat → Nat} {st : Nat → Nat} {h : Nat} {ea eb : Nat → Nat} {lo : Nat → Bool} {fo si : Nat → Nat} {it : Nat → Nat → Int32} {fd : Int32} (hN : 2200 < N) (hC : C7 c0 ad w n β tr st h ea eb lo fo si it fd) (p1 p2 : Int32) : ∃ w', Ct l D c0 yX7_night cX7_night 3 (some .long) (rmF 7 163) [.ref (ad 0), .int p1, .int p2] w (some (.long (aNight n β (tr 0) (st 0) p1 p2))) w' ∧ C7 c0 ad w' n β tr st h ea eb lo fo si it fd := by
  refine hC _ ?_
  intro typed texts comes coming came goes going wears worn rowOf looks minutes deep room look lift laid judgedNow manyIn goers goer liftedFor whens fronts laidTo chains outs aheads aheadOne aheadOther orders isThere forms sizes items moved finding hw hM hO hS hF
  subst hw
  subst hF
  obtain ⟨R, e, a⟩ := night7 (N := N)  (comes := comes) (coming := coming) (came := came) (goes := goes) (going := going) (wears := wears) (worn := worn) (laid := laid) (judgedNow := judgedNow) (manyIn := manyIn) (by omega) hM p1 p2
  have k := kX7_night l D c0 ad typed texts comes coming came goes going wears worn rowOf looks minutes deep room look lift laid judgedNow manyIn goers goer liftedFor whens fronts laidTo chains outs aheads aheadOne aheadOther orders isThere forms sizes items moved finding p1 p2 (N := N) e
  rw [a] at k
  exact ⟨_, k, fun _ g => g _ _ _ _ _ _ _ _ _ _ _ _ _ _ _ _ _ _ _ _ _ _ _ _ _ _ _ _ _ _ _ _ _ _ _ _ _ rfl hM hO hS rfl⟩
theorem s7_sheet {N : Nat} (l : Launch) (D : va_G) {c0 : Nat → ClassId} {ad : Nat → Nat} {w : va_W} {n : Nat → Nat} {β tr : Nat → Nat → Nat} {st : Nat → Nat} {h : Nat} {ea eb : Nat → Nat} {lo : Nat → Bool} {fo si : Nat → Nat} {it : Nat → Nat → Int32} {fd : Int32} (hN : 2200 < N) (hC : C7 c0 ad w n β tr st h ea eb lo fo si it fd) (p1 p2 p3 : Int32) : ∃ w', Ct l D c0 yX7_sheet cX7_sheet 5 (some .int) (rmF 2 42) [.ref (ad 0), .int p1, .int p2, .int p3] w (some (.int ((shA lo fo si it fd p1 p2 p3).1))) w' ∧ C7 c0 ad w' n β tr st h ea eb ((shA lo fo si it fd p1 p2 p3).2.1) ((shA lo fo si it fd p1 p2 p3).2.2.1) ((shA lo fo si it fd p1 p2 p3).2.2.2.1) ((shA lo fo si it fd p1 p2 p3).2.2.2.2.1) ((shA lo fo si it fd p1 p2 p3).2.2.2.2.2) := by
  refine hC _ ?_
  intro typed texts comes coming came goes going wears worn rowOf looks minutes deep room look lift laid judgedNow manyIn goers goer liftedFor whens fronts laidTo chains outs aheads aheadOne aheadOther orders isThere forms sizes items moved finding hw hM hO hS hF
  subst hw
  subst hF
  obtain ⟨R, e, a, hS2, hF2⟩ := sheet7 (N := N)   (fd := finding) (by omega) hS p1 p2 p3
  have k := kX7_sheet l D c0 ad typed texts comes coming came goes going wears worn rowOf looks minutes deep room look lift laid judgedNow manyIn goers goer liftedFor whens fronts laidTo chains outs aheads aheadOne aheadOther orders isThere forms sizes items moved finding p1 p2 p3 (N := N) e
  rw [a] at k
  exact ⟨_, k, fun _ g => g _ _ _ _ _ _ _ _ _ _ _ _ _ _ _ _ _ _ _ _ _ _ _ _ _ _ _ _ _ _ _ _ _ _ _ _ _ rfl hM hO hS2 hF2⟩
theorem s7_lose {N : Nat} (l : Launch) (D : va_G) {c0 : Nat → ClassId} {ad : Nat → Nat} {w : va_W} {n : Nat → Nat} {β tr : Nat → Nat → Nat} {st : Nat → Nat} {h : Nat} {ea eb : Nat → Nat} {lo : Nat → Bool} {fo si : Nat → Nat} {it : Nat → Nat → Int32} {fd : Int32} (hN : 2200 < N) (hC : C7 c0 ad w n β tr st h ea eb lo fo si it fd) (p1 : Int32) : ∃ w', Ct l D c0 yX7_lose cX7_lose 2 (some .int) (rmF 2 42) [.ref (ad 0), .int p1] w (some (.int ((loA lo si fd p1).1))) w' ∧ C7 c0 ad w' n β tr st h ea eb ((loA lo si fd p1).2.1) fo si it ((loA lo si fd p1).2.2) := by
  refine hC _ ?_
  intro typed texts comes coming came goes going wears worn rowOf looks minutes deep room look lift laid judgedNow manyIn goers goer liftedFor whens fronts laidTo chains outs aheads aheadOne aheadOther orders isThere forms sizes items moved finding hw hM hO hS hF
  subst hw
  subst hF
  obtain ⟨R, e, a, hS2, hF2⟩ := lose7   (fd := finding) hS p1
  have k := kX7_lose l D c0 ad typed texts comes coming came goes going wears worn rowOf looks minutes deep room look lift laid judgedNow manyIn goers goer liftedFor whens fronts laidTo chains outs aheads aheadOne aheadOther orders isThere forms sizes items moved finding p1 e
  rw [a] at k
  exact ⟨_, k, fun _ g => g _ _ _ _ _ _ _ _ _ _ _ _ _ _ _ _ _ _ _ _ _ _ _ _ _ _ _ _ _ _ _ _ _ _ _ _ _ rfl hM hO hS2 hF2⟩
theorem s7_put {N : Nat} (l : Launch) (D : va_G) {c0 : Nat → ClassId} {ad : Nat → Nat} {w : va_W} {n : Nat → Nat} {β tr : Nat → Nat → Nat} {st : Nat → Nat} {h : Nat} {ea eb : Nat → Nat} {lo : Nat → Bool} {fo si : Nat → Nat} {it : Nat → Nat → Int32} {fd : Int32} (hN : 2200 < N) (hC : C7 c0 ad w n β tr st h ea eb lo fo si it fd) (p1 p2 p3 p4 : Int32) : ∃ w', Ct l D c0 yX7_put cX7_put 6 (some .int) (rmF 2 45) [.ref (ad 0), .int p1, .int p2, .int p3, .int p4] w (some (.int ((puA lo fo si it fd p1 p2 p3 p4).1))) w' ∧ C7 c0 ad w' n β tr st h ea eb lo fo si ((puA lo fo si it fd p1 p2 p3 p4).2.1) ((puA lo fo si it fd p1 p2 p3 p4).2.2) := by
  refine hC _ ?_
  intro typed texts comes coming came goes going wears worn rowOf looks minutes deep room look lift laid judgedNow manyIn goers goer liftedFor whens fronts laidTo chains outs aheads aheadOne aheadOther orders isThere forms sizes items moved finding hw hM hO hS hF
  subst hw
  subst hF
  obtain ⟨R, e, a, hS2, hF2⟩ := put7   (fd := finding) hS p1 p2 p3 p4
  have k := kX7_put l D c0 ad typed texts comes coming came goes going wears worn rowOf looks minutes deep room look lift laid judgedNow manyIn goers goer liftedFor whens fronts laidTo chains outs aheads aheadOne aheadOther orders isThere forms sizes items moved finding p1 p2 p3 p4 e
  rw [a] at k
  exact ⟨_, k, fun _ g => g _ _ _ _ _ _ _ _ _ _ _ _ _ _ _ _ _ _ _ _ _ _ _ _ _ _ _ _ _ _ _ _ _ _ _ _ _ rfl hM hO hS2 hF2⟩
theorem s7_get {N : Nat} (l : Launch) (D : va_G) {c0 : Nat → ClassId} {ad : Nat → Nat} {w : va_W} {n : Nat → Nat} {β tr : Nat → Nat → Nat} {st : Nat → Nat} {h : Nat} {ea eb : Nat → Nat} {lo : Nat → Bool} {fo si : Nat → Nat} {it : Nat → Nat → Int32} {fd : Int32} (hN : 2200 < N) (hC : C7 c0 ad w n β tr st h ea eb lo fo si it fd) (p1 p2 p3 : Int32) : ∃ w', Ct l D c0 yX7_get cX7_get 5 (some .int) (rmF 2 45) [.ref (ad 0), .int p1, .int p2, .int p3] w (some (.int ((geA lo fo si it fd p1 p2 p3).1))) w' ∧ C7 c0 ad w' n β tr st h ea eb lo fo si it ((geA lo fo si it fd p1 p2 p3).2) := by
  refine hC _ ?_
  intro typed texts comes coming came goes going wears worn rowOf looks minutes deep room look lift laid judgedNow manyIn goers goer liftedFor whens fronts laidTo chains outs aheads aheadOne aheadOther orders isThere forms sizes items moved finding hw hM hO hS hF
  subst hw
  subst hF
  have e := get7 (fd := finding) hS p1 p2 p3
  have k := kX7_get l D c0 ad typed texts comes coming came goes going wears worn rowOf looks minutes deep room look lift laid judgedNow manyIn goers goer liftedFor whens fronts laidTo chains outs aheads aheadOne aheadOther orders isThere forms sizes items moved finding p1 p2 p3 e
  exact ⟨_, k, fun _ g => g _ _ _ _ _ _ _ _ _ _ _ _ _ _ _ _ _ _ _ _ _ _ _ _ _ _ _ _ _ _ _ _ _ _ _ _ _ rfl hM hO hS rfl⟩
theorem s7_copy {N : Nat} (l : Launch) (D : va_G) {c0 : Nat → ClassId} {ad : Nat → Nat} {w : va_W} {n : Nat → Nat} {β tr : Nat → Nat → Nat} {st : Nat → Nat} {h : Nat} {ea eb : Nat → Nat} {lo : Nat → Bool} {fo si : Nat → Nat} {it : Nat → Nat → Int32} {fd : Int32} (hN : 2200 < N) (hC : C7 c0 ad w n β tr st h ea eb lo fo si it fd) (p1 p2 p3 p4 p5 : Int32) : ∃ w', Ct l D c0 yX7_copy cX7_copy 7 (some .int) (rmF 2 42) [.ref (ad 0), .int p1, .int p2, .int p3, .int p4, .int p5] w (some (.int ((coA lo fo si it fd p1 p2 p3 p4 p5).1))) w' ∧ C7 c0 ad w' n β tr st h ea eb lo fo si ((coA lo fo si it fd p1 p2 p3 p4 p5).2.1) ((coA lo fo si it fd p1 p2 p3 p4 p5).2.2) := by
  refine hC _ ?_
  intro typed texts comes coming came goes going wears worn rowOf looks minutes deep room look lift laid judgedNow manyIn goers goer liftedFor whens fronts laidTo chains outs aheads aheadOne aheadOther orders isThere forms sizes items moved finding hw hM hO hS hF
  subst hw
  subst hF
  obtain ⟨R, e, a, hS2, hF2⟩ := copy7 (N := N)  (moved := moved) (fd := finding) (by omega) hS p1 p2 p3 p4 p5
  have k := kX7_copy l D c0 ad typed texts comes coming came goes going wears worn rowOf looks minutes deep room look lift laid judgedNow manyIn goers goer liftedFor whens fronts laidTo chains outs aheads aheadOne aheadOther orders isThere forms sizes items moved finding p1 p2 p3 p4 p5 (N := N) e
  rw [a] at k
  exact ⟨_, k, fun _ g => g _ _ _ _ _ _ _ _ _ _ _ _ _ _ _ _ _ _ _ _ _ _ _ _ _ _ _ _ _ _ _ _ _ _ _ _ _ rfl hM hO hS2 hF2⟩
theorem s7_write {N : Nat} (l : Launch) (D : va_G) {c0 : Nat → ClassId} {ad : Nat → Nat} {w : va_W} {n : Nat → Nat} {β tr : Nat → Nat → Nat} {st : Nat → Nat} {h : Nat} {ea eb : Nat → Nat} {lo : Nat → Bool} {fo si : Nat → Nat} {it : Nat → Nat → Int32} {fd : Int32} (hN : 2200 < N) (hC : C7 c0 ad w n β tr st h ea eb lo fo si it fd) (p1 : Int32) : ∃ w', Ct l D c0 yX7_write cX7_write 4 (some .int) (rmF 7 160) [.ref (ad 0), .int p1] w (some (.int ((wrA lo si it (tcs n β (tr 0) (st 0)) (tvs n β (tr 0) (st 0)) fd p1).1))) w' ∧ C7 c0 ad w' n β tr st h ea eb lo fo si ((wrA lo si it (tcs n β (tr 0) (st 0)) (tvs n β (tr 0) (st 0)) fd p1).2.1) ((wrA lo si it (tcs n β (tr 0) (st 0)) (tvs n β (tr 0) (st 0)) fd p1).2.2) := by
  refine hC _ ?_
  intro typed texts comes coming came goes going wears worn rowOf looks minutes deep room look lift laid judgedNow manyIn goers goer liftedFor whens fronts laidTo chains outs aheads aheadOne aheadOther orders isThere forms sizes items moved finding hw hM hO hS hF
  subst hw
  subst hF
  obtain ⟨R, e, a, hS2, hF2⟩ := write7 (N := N)  (comes := comes) (coming := coming) (came := came) (goes := goes) (going := going) (wears := wears) (worn := worn) (laid := laid) (judgedNow := judgedNow) (manyIn := manyIn) (goers := goers) (goer := goer) (lfo := liftedFor) (fd := finding) (by omega) hM hS p1
  have k := kX7_write l D c0 ad typed texts comes coming came goes going wears worn rowOf looks minutes deep room look lift laid judgedNow manyIn goers goer liftedFor whens fronts laidTo chains outs aheads aheadOne aheadOther orders isThere forms sizes items moved finding p1 (N := N) e
  rw [a] at k
  exact ⟨_, k, fun _ g => g _ _ _ _ _ _ _ _ _ _ _ _ _ _ _ _ _ _ _ _ _ _ _ _ _ _ _ _ _ _ _ _ _ _ _ _ _ rfl hM hO hS2 hF2⟩
theorem s7_count {N : Nat} (l : Launch) (D : va_G) {c0 : Nat → ClassId} {ad : Nat → Nat} {w : va_W} {n : Nat → Nat} {β tr : Nat → Nat → Nat} {st : Nat → Nat} {h : Nat} {ea eb : Nat → Nat} {lo : Nat → Bool} {fo si : Nat → Nat} {it : Nat → Nat → Int32} {fd : Int32} (hN : 2200 < N) (hC : C7 c0 ad w n β tr st h ea eb lo fo si it fd) (p1 : Int32) : ∃ w', Ct l D c0 yX7_count cX7_count 2 (some .int) (rmF 7 158) [.ref (ad 0), .int p1] w (some (.int (aCount n β (tr 0) (st 0) (st 1) (nI h) fd p1))) w' ∧ C7 c0 ad w' n β tr st h ea eb lo fo si it fd := by
  refine hC _ ?_
  intro typed texts comes coming came goes going wears worn rowOf looks minutes deep room look lift laid judgedNow manyIn goers goer liftedFor whens fronts laidTo chains outs aheads aheadOne aheadOther orders isThere forms sizes items moved finding hw hM hO hS hF
  subst hw
  subst hF
  have hm := hO.2.2.1
  subst hm
  obtain ⟨R, e, a⟩ := count7 (N := N)  (comes := comes) (coming := coming) (came := came) (goes := goes) (going := going) (wears := wears) (worn := worn) (laid := laid) (judgedNow := judgedNow) (manyIn := manyIn) (fi := finding) (by omega) hM p1
  have k := kX7_count l D c0 ad typed texts comes coming came goes going wears worn rowOf looks minutes deep room look lift laid judgedNow manyIn goers goer liftedFor whens fronts laidTo chains outs (nI h) aheadOne aheadOther orders isThere forms sizes items moved finding p1 (N := N) e
  rw [a] at k
  exact ⟨_, k, fun _ g => g _ _ _ _ _ _ _ _ _ _ _ _ _ _ _ _ _ _ _ _ _ _ _ _ _ _ _ _ _ _ _ _ _ _ _ _ _ rfl hM hO hS rfl⟩
theorem s7_digest {N : Nat} (l : Launch) (D : va_G) {c0 : Nat → ClassId} {ad : Nat → Nat} {w : va_W} {n : Nat → Nat} {β tr : Nat → Nat → Nat} {st : Nat → Nat} {h : Nat} {ea eb : Nat → Nat} {lo : Nat → Bool} {fo si : Nat → Nat} {it : Nat → Nat → Int32} {fd : Int32} (hN : 2200 < N) (hC : C7 c0 ad w n β tr st h ea eb lo fo si it fd) : ∃ w', Ct l D c0 yX7_digest cX7_digest 4 (some .long) (rmF 9 208) [.ref (ad 0)] w (some (.long (dD14 n β tr st h ea eb fd (aWr N n β)))) w' ∧ C7 c0 ad w' n β tr st h ea eb lo fo si it fd := by
  refine hC _ ?_
  intro typed texts comes coming came goes going wears worn rowOf looks minutes deep room look lift laid judgedNow manyIn goers goer liftedFor whens fronts laidTo chains outs aheads aheadOne aheadOther orders isThere forms sizes items moved finding hw hM hO hS hF
  subst hw
  subst hF
  obtain ⟨R, e, a⟩ := digest7 (N := N)  (comes := comes) (coming := coming) (came := came) (goes := goes) (going := going) (wears := wears) (worn := worn) (laid := laid) (judgedNow := judgedNow) (manyIn := manyIn) (goers := goers) (goer := goer) (lfo := liftedFor) (whens := whens) (fronts := fronts) (laidTo := laidTo) (chains := chains) (outs := outs) (orders := orders) (fd := finding) hN hM hO (fun p _ _ _ _ _ _ _ => wr7 (by omega) hM.1 p)
  have k := kX7_digest l D c0 ad typed texts comes coming came goes going wears worn rowOf looks minutes deep room look lift laid judgedNow manyIn goers goer liftedFor whens fronts laidTo chains outs aheads aheadOne aheadOther orders isThere forms sizes items moved finding  (N := N) e
  rw [a] at k
  exact ⟨_, k, fun _ g => g _ _ _ _ _ _ _ _ _ _ _ _ _ _ _ _ _ _ _ _ _ _ _ _ _ _ _ _ _ _ _ _ _ _ _ _ _ rfl hM hO hS rfl⟩

def R_law : String := "ShoesHallLaw"
def lw_P (b : Addr) (xs : List Int32) (args : Array Value) (s : State) : Prop := args = #[.ref b] ∧ s.IntsAt b xs ∧ xs.length ≤ 384 ∧ (Jvm.Cond.and given_1 narrow_1).before args s = true
def lw_Q (_ : Array Value) (s : State) (o : Outcome) (t : State) : Prop := o = .returned (some (.int 1)) ∧ Framed s o t [] 600000 7302250
def lw_Z (below : List Frame) (a : Array Value) (s : State) : State → Prop := fun t => ∃ o, t.status = .running ∧ Ended t below o ∧ lw_Q a s o t
/-- the law's own end, with 1 on the stack, nothing written that was there before, its room as the claim has it -/
theorem lw_ret {p : Program} {l : Launch} {e : Env} {s : State} {m : MethodId} {below : List Frame} {meth : Method} {c : Code} {b : Nat} (hx : p.tables.exec = Jvm.exec) (hb : c.code = code) (hr : meth.sig.returnType = ret) (hlocks : meth.locks = false) {pc : Nat} {H : Heap} {ls : Array Slot} (hdg : decode code pc = .ok (.ireturn, 1)) : W p l e room_1 s m #[Value.ref b] below meth c H [] 600000 7302250 (lw_Z below #[Value.ref b] s) (F0 m pc ls [.int 1]) := by
  intro T hT X
  obtain ⟨fs, hret, hrun, hended, hW, hframe⟩ := X.leave (v := some (.int 1)) (hlocks := hlocks) (fun h => by rw [hr] at h; cases h)
  have hmeth' : T.vm.method? m = some meth := X.method'
  refine ⟨T.setFrames fs, ?_, .returned (some (.int 1)), hrun, hended, rfl, ⟨_, rfl⟩, hW, hframe⟩
  jvm_step X.here [X.here.top, hx, hb, hdg, hmeth', hr, ret, narrow_b1]
  (try refine ⟨rfl, ?_⟩); (try refine ⟨rfl, ?_⟩)
  first | (intro acts; rw [hret _ acts rfl rfl rfl]) | rw [hret _ _ rfl rfl rfl]
  exact Steps.refl _
/-- what holds at the law's entry: the machine, the code, the tables' words (any of lw_tbl by 'hts w (by decide +kernel)'), the script of L ints xs at the cell b, what the Statement gives of the start (any of its parts by flat_of_before) -/
def lw_At (p : Program) (s : State) (m : MethodId) (meth : Method) (c : Code) (b L : Nat) (xs : Nat → Int32) : Prop :=
  p.tables.exec = Jvm.exec ∧ c.code = code ∧ meth.sig.returnType = ret ∧ c.maxLocals = 4 ∧ s.vm.findClass R_law = some m.cls ∧ (∀ w ∈ lw_tbl, w.before #[Value.ref b] s = true) ∧ va_X b L xs s s.heap ∧ b < s.heap.size ∧ meth.locks = false ∧ (Jvm.Cond.and given_1 narrow_1).before #[Value.ref b] s = true
/-! ===== rows of the law: the script, calls at a world of two parts ===== -/
def XK (K : KT) (b L : Nat) (xs : Nat → Int32) : Prop := match K with
  | (p, e, R, s, m, args, below, meth, c, A, Q) => va_X b L xs s s.heap ∧ b < s.heap.size ∧ ¬ A b
def SK (K : KT) : Prop := match K with
  | (p, e, R, s, m, args, below, meth, c, A, Q) => SZs A s
theorem SZs.narrow {A B : Nat → Prop} {s U : State} (h : SZs A s) (hvm : s.vm.Alike U.vm) (hk : ∀ a : Nat, a < s.heap.size → ¬ A a → U.heap[a]? = s.heap[a]?) (hAB : ∀ q, B q → A q) : SZs B U := by
  obtain ⟨t1, t2, t3, ⟨a1, b1⟩, ⟨a2, b2⟩, ⟨a3, b3⟩⟩ := h
  exact ⟨t1, t2, t3, ⟨((a1.kept hk).moved hvm).narrow hAB, ((b1.kept hk).moved hvm).narrow hAB⟩, ⟨((a2.kept hk).moved hvm).narrow hAB, ((b2.kept hk).moved hvm).narrow hAB⟩, ⟨((a3.kept hk).moved hvm).narrow hAB, ((b3.kept hk).moved hvm).narrow hAB⟩⟩
theorem app_L {D : va_G} {cl : List vw_C} {wc wr : va_W} {H : Heap} (h : va_P D cl (wc ++ wr) H) : va_P D cl wc H := fun k q hk => h k q (by rw [List.getElem?_append_left (List.getElem?_eq_some_iff.mp hk).1]; exact hk)
theorem app_R {D : va_G} {cl : List vw_C} {wc wr : va_W} {H : Heap} (h : va_P D cl (wc ++ wr) H) : va_P D cl wr H := fun k q hk => h (wc.length + k) q (by rw [List.getElem?_append_right (Nat.le_add_right _ _), Nat.add_sub_cancel_left]; exact hk)
theorem app_DL {A B : Nat → Prop} {wc wr : va_W} (h : va_D A (wc ++ wr)) (hB : ∀ q, B q) : va_D B wc :=
  ⟨fun i j p q hi hj e => h.1 i j p q (by rw [List.getElem?_append_left (List.getElem?_eq_some_iff.mp hi).1]; exact hi) (by rw [List.getElem?_append_left (List.getElem?_eq_some_iff.mp hj).1]; exact hj) e, fun _ q _ => hB q.1⟩
theorem app_DR {A B : Nat → Prop} {wc wr : va_W} (h : va_D A (wc ++ wr)) (hB : ∀ q, B q) : va_D B wr :=
  ⟨fun i j p q hi hj e => by
    have := h.1 (wc.length + i) (wc.length + j) p q (by rw [List.getElem?_append_right (Nat.le_add_right _ _), Nat.add_sub_cancel_left]; exact hi) (by rw [List.getElem?_append_right (Nat.le_add_right _ _), Nat.add_sub_cancel_left]; exact hj) e
    omega, fun _ q _ => hB q.1⟩
theorem app_AL {A : Nat → Prop} {wc wr : va_W} (h : va_D A (wc ++ wr)) : ∀ q, wA wc q → A q := by
  rintro q ⟨k, e, z⟩
  exact h.2 k (q, e) (by rw [List.getElem?_append_left (List.getElem?_eq_some_iff.mp z).1]; exact z)
theorem app_AR {A : Nat → Prop} {wc wr : va_W} (h : va_D A (wc ++ wr)) : ∀ q, wA wr q → A q := by
  rintro q ⟨k, e, z⟩
  exact h.2 (wc.length + k) (q, e) (by rw [List.getElem?_append_right (Nat.le_add_right _ _), Nat.add_sub_cancel_left]; exact z)
theorem app_nL {A : Nat → Prop} {wc wr : va_W} (h : va_D A (wc ++ wr)) {k : Nat} {q : Nat × va_E} (hk : wr[k]? = some q) : ¬ wA wc q.1 := by
  rintro ⟨j, e, z⟩
  have hj := (List.getElem?_eq_some_iff.mp z).1
  have := h.1 j (wc.length + k) (q.1, e) q (by rw [List.getElem?_append_left hj]; exact z) (by rw [List.getElem?_append_right (Nat.le_add_right _ _), Nat.add_sub_cancel_left]; exact hk) rfl
  omega
theorem app_nR {A : Nat → Prop} {wc wr : va_W} (h : va_D A (wc ++ wr)) {k : Nat} {q : Nat × va_E} (hk : wc[k]? = some q) : ¬ wA wr q.1 := by
  rintro ⟨j, e, z⟩
  have hj := (List.getElem?_eq_some_iff.mp hk).1
  have := h.1 k (wc.length + j) q (q.1, e) (by rw [List.getElem?_append_left hj]; exact hk) (by rw [List.getElem?_append_right (Nat.le_add_right _ _), Nat.add_sub_cancel_left]; exact z) rfl
  omega
theorem app_keepL {D : va_G} {cl : List vw_C} {A : Nat → Prop} {wc wc' wr : va_W} {H H1 : Heap} (hP : va_P D cl (wc ++ wr) H) (hD : va_D A (wc ++ wr)) (hk : ∀ q : Nat, q < H.size → ¬ wA wc q → H1[q]? = H[q]?) (hP1 : va_P D cl wc' H1) : va_P D cl (wc' ++ wr) H1 :=
  hP1.app (fun k q hq => (app_R hP k q hq).kept (hk q.1 (app_R hP k q hq).lt (app_nL hD hq)))
theorem app_keepR {D : va_G} {cl : List vw_C} {A : Nat → Prop} {wc wr wr' : va_W} {H H1 : Heap} (hP : va_P D cl (wc ++ wr) H) (hD : va_D A (wc ++ wr)) (hk : ∀ q : Nat, q < H.size → ¬ wA wr q → H1[q]? = H[q]?) (hP1 : va_P D cl wr' H1) : va_P D cl (wc ++ wr') H1 :=
  va_P.app (fun k q hq => (app_L hP k q hq).kept (hk q.1 (app_L hP k q hq).lt (app_nR hD hq))) hP1
section QL
variable {l : Launch} {D : va_G} {c0 : Nat → ClassId} {K : KT} {own : String} {cc : ByteArray} {nL : Nat} {rm : Room} {pc ce sl : Nat} {lv : List (Nat × Value)} {st : List Value} {ws : va_W}
theorem q_sld (h : OKc D c0 K own cc nL rm) {b L : Nat} {xs : Nat → Int32} (hX : XK K b L xs) {i : Int32} {n : Nat} (hi : vp_in i L) (hd : decode cc pc = .ok (.iaload, 1)) (hn : pc + 1 = n) (kk : WA l D K nL n lv (.int (xs i.toNatClampNeg) :: st) ws ce sl) : WA l D K nL pc lv (.int i :: .ref b :: st) ws ce sl := by
  subst hn
  obtain ⟨p, e, R, s, m, args, below, meth, c, A, Q⟩ := K
  obtain ⟨hx, hb, hml, hown, hts, hR, hK, hNW, hA, hgood, hAO⟩ := h
  intro ls H locs hl hP hD hS
  exact va_sld hx hb hX.1 hX.2.1 hX.2.2 hS hi hd (kk ls H locs hl hP hD hS)
theorem q_slen (h : OKc D c0 K own cc nL rm) {b L : Nat} {xs : Nat → Int32} (hX : XK K b L xs) {n : Nat} (hd : decode cc pc = .ok (.arraylength, 1)) (hn : pc + 1 = n) (kk : WA l D K nL n lv (.int (nI L) :: st) ws ce sl) : WA l D K nL pc lv (.ref b :: st) ws ce sl := by
  subst hn
  obtain ⟨p, e, R, s, m, args, below, meth, c, A, Q⟩ := K
  obtain ⟨hx, hb, hml, hown, hts, hR, hK, hNW, hA, hgood, hAO⟩ := h
  intro ls H locs hl hP hD hS
  exact va_slen hx hb hX.1 hX.2.1 hX.2.2 hS hd (kk ls H locs hl hP hD hS)
theorem q_arg (h : OKc D c0 K own cc nL rm) {b L : Nat} {xs : Nat → Int32} (hX : XK K b L xs) {x v : Int32} {z : Int} {n : Nat} (hi : vp_in (x + v) L) (h0 : lv[0]? = some (0, .ref b)) (h3 : lv[3]? = some (3, .int x)) (hv : Int32.ofInt z = v) (d1 : decode cc pc = .ok (.aload_n 0, 1)) (d2 : decode cc (pc + 1) = .ok (.iload_n 3, 1)) (d3 : decode cc (pc + 2) = .ok (.iconst z, 1)) (d4 : decode cc (pc + 3) = .ok (.iadd, 1)) (d5 : decode cc (pc + 4) = .ok (.iaload, 1)) (hn : pc + 5 = n) (kk : WA l D K nL n lv (.int (xs (x + v).toNatClampNeg) :: st) ws ce sl) : WA l D K nL pc lv st ws ce sl := by
  refine q_aload_n h 0 d1 rfl h0 rfl ?_
  refine q_iload_n h 3 d2 rfl h3 rfl ?_
  refine q_iconst h v d3 hv rfl ?_
  refine q_iadd h d4 rfl ?_
  exact q_sld h hX hi d5 hn kk
theorem q_callL (h : OKc D c0 K own cc nL rm) {y : MethodName} {cc' : ByteArray} {nL' : Nat} {ret' : Option FieldType} {rm' : Room} {np i b : Nat} {As : List Value} {wc wc' wr : va_W} {rv : Option Value} (M : MI y cc' nL' ret' np) (V : MV y) (hw : Cond.methodLink own i y ∈ tbl)
    (hM : Ct l D c0 y cc' nL' ret' rm' (.ref b :: As) wc rv wc') {ci : Nat} {fs : List Value} {r : vw_C} {n : Nat} (h0 : wc[0]? = some (b, .inr (ci, fs))) (hci : vwCl[ci]? = some r) (hr1 : r.1 = y.cls)
    (hfst : wc'.map Prod.fst = wc.map Prod.fst) (hnp : As.length = np) (hrm : rm'.cells = 0 ∧ rm'.slots = 0 ∧ rm'.frames + 1 ≤ rm.frames ∧ 8 + (nL' + 11) + rm'.locals ≤ rm.locals) {st0 st1 : List Value} (hst1 : rv.toList ++ st = st1) (hst : st0 = As.reverse ++ .ref b :: st) (hsum : (st.map fun v => v.category).sum ≤ 8) (hce9 : ce ≤ rm.cells) (hsl9 : sl ≤ rm.slots) (hd : decode cc pc = .ok (.invokevirtual i, 3)) (hn : pc + 3 = n)
    (kk : WA l D K nL n lv st1 (wc' ++ wr) ce sl) : WA l D K nL pc lv st0 (wc ++ wr) ce sl := by
  subst hn hst hst1
  obtain ⟨p, e, R, s, m, args, below, meth, c, A, Q⟩ := K
  obtain ⟨hx, hb, hml, hown, hts, hR, hK, hNW, hA, hgood, hAO⟩ := h
  intro ls H locs hl hP hD hS
  subst hR
  refine q_called (va_runV (As := As) (rest := st) ⟨hx, hb, hml, hown, hts⟩ hM (C := y.cls) ⟨callB_of np hts (tbl_in M.1) rfl hrm.1 hrm.2.1 (hts _ M.2.1) (hts _ hw) M.2.2 hrm.2.2, hts _ V.1, hts _ V.2⟩ ⟨Pz_blind, ?_, fun U hU hW => ⟨rfl, by rw [hU]; exact app_L hP, va_K.moved hW.alike hK, hNW.warm hW, app_DL hD (fun _ => trivial)⟩⟩ rfl hnp hl.1 rfl (lv_room hsum) hd ⟨hce9, hsl9⟩) hS (app_AL hD) (fun H1 locs1 hP1 hk hS => kk ls H1 locs1 hl (app_keepL hP hD hk hP1) (va_D_fst hD (by rw [List.map_append, List.map_append, hfst])) hS)
  rw [← hr1]
  exact va_recv hK (app_L hP) hci h0
theorem q_callR (h : OKc D c0 K own cc nL rm) {y : MethodName} {cc' : ByteArray} {nL' : Nat} {ret' : Option FieldType} {rm' : Room} {np i b : Nat} {As : List Value} {wc wr wr' : va_W} {rv : Option Value} (M : MI y cc' nL' ret' np) (V : MV y) (hw : Cond.methodLink own i y ∈ tbl)
    (hM : Ct l D c0 y cc' nL' ret' rm' (.ref b :: As) wr rv wr') {ci : Nat} {fs : List Value} {r : vw_C} {n : Nat} (h0 : wr[0]? = some (b, .inr (ci, fs))) (hci : vwCl[ci]? = some r) (hr1 : r.1 = y.cls)
    (hfst : wr'.map Prod.fst = wr.map Prod.fst) (hnp : As.length = np) (hrm : rm'.cells = 0 ∧ rm'.slots = 0 ∧ rm'.frames + 1 ≤ rm.frames ∧ 8 + (nL' + 11) + rm'.locals ≤ rm.locals) {st0 st1 : List Value} (hst1 : rv.toList ++ st = st1) (hst : st0 = As.reverse ++ .ref b :: st) (hsum : (st.map fun v => v.category).sum ≤ 8) (hce9 : ce ≤ rm.cells) (hsl9 : sl ≤ rm.slots) (hd : decode cc pc = .ok (.invokevirtual i, 3)) (hn : pc + 3 = n)
    (kk : WA l D K nL n lv st1 (wc ++ wr') ce sl) : WA l D K nL pc lv st0 (wc ++ wr) ce sl := by
  subst hn hst hst1
  obtain ⟨p, e, R, s, m, args, below, meth, c, A, Q⟩ := K
  obtain ⟨hx, hb, hml, hown, hts, hR, hK, hNW, hA, hgood, hAO⟩ := h
  intro ls H locs hl hP hD hS
  subst hR
  refine q_called (va_runV (As := As) (rest := st) ⟨hx, hb, hml, hown, hts⟩ hM (C := y.cls) ⟨callB_of np hts (tbl_in M.1) rfl hrm.1 hrm.2.1 (hts _ M.2.1) (hts _ hw) M.2.2 hrm.2.2, hts _ V.1, hts _ V.2⟩ ⟨Pz_blind, ?_, fun U hU hW => ⟨rfl, by rw [hU]; exact app_R hP, va_K.moved hW.alike hK, hNW.warm hW, app_DR hD (fun _ => trivial)⟩⟩ rfl hnp hl.1 rfl (lv_room hsum) hd ⟨hce9, hsl9⟩) hS (app_AR hD) (fun H1 locs1 hP1 hk hS => kk ls H1 locs1 hl (app_keepR hP hD hk hP1) (va_D_fst hD (by rw [List.map_append, List.map_append, hfst])) hS)
  rw [← hr1]
  exact va_recv hK (app_R hP) hci h0
theorem q_callLS (h : OKc D c0 K own cc nL rm) (hZ : SK K) {y : MethodName} {cc' : ByteArray} {nL' : Nat} {ret' : Option FieldType} {rm' : Room} {np i b : Nat} {As : List Value} {wc wc' wr : va_W} {rv : Option Value} (M : MI y cc' nL' ret' np) (V : MV y) (hw : Cond.methodLink own i y ∈ tbl)
    (hM : CtS l D c0 y cc' nL' ret' rm' (.ref b :: As) wc rv wc') {ci : Nat} {fs : List Value} {r : vw_C} {n : Nat} (h0 : wc[0]? = some (b, .inr (ci, fs))) (hci : vwCl[ci]? = some r) (hr1 : r.1 = y.cls)
    (hfst : wc'.map Prod.fst = wc.map Prod.fst) (hnp : As.length = np) (hrm : rm'.cells = 0 ∧ rm'.slots = 0 ∧ rm'.frames + 1 ≤ rm.frames ∧ 8 + (nL' + 11) + rm'.locals ≤ rm.locals) {st0 st1 : List Value} (hst1 : rv.toList ++ st = st1) (hst : st0 = As.reverse ++ .ref b :: st) (hsum : (st.map fun v => v.category).sum ≤ 8) (hce9 : ce ≤ rm.cells) (hsl9 : sl ≤ rm.slots) (hd : decode cc pc = .ok (.invokevirtual i, 3)) (hn : pc + 3 = n)
    (kk : WA l D K nL n lv st1 (wc' ++ wr) ce sl) : WA l D K nL pc lv st0 (wc ++ wr) ce sl := by
  subst hn hst hst1
  obtain ⟨p, e, R, s, m, args, below, meth, c, A, Q⟩ := K
  obtain ⟨hx, hb, hml, hown, hts, hR, hK, hNW, hA, hgood, hAO⟩ := h
  intro ls H locs hl hP hD hS
  subst hR
  refine q_called (va_runV (As := As) (rest := st) ⟨hx, hb, hml, hown, hts⟩ hM (C := y.cls) ⟨callB_of np hts (tbl_in M.1) rfl hrm.1 hrm.2.1 (hts _ M.2.1) (hts _ hw) M.2.2 hrm.2.2, hts _ V.1, hts _ V.2⟩ ⟨fun a U g mk q => ⟨Pz_blind a U g mk q.1, SZs.narrow q.2 (Vm.Alike.refl U.vm) (fun _ _ _ => rfl) (fun _ z => z)⟩, ?_, fun U hU hW => ⟨⟨rfl, by rw [hU]; exact app_L hP, va_K.moved hW.alike hK, hNW.warm hW, app_DL hD (fun _ => trivial)⟩, SZs.narrow hZ hW.alike (fun a h1 h2 => by rw [hU]; exact hS.2.1 a h1 h2) (app_AL hD)⟩⟩ rfl hnp hl.1 rfl (lv_room hsum) hd ⟨hce9, hsl9⟩) hS (app_AL hD) (fun H1 locs1 hP1 hk hS => kk ls H1 locs1 hl (app_keepL hP hD hk hP1) (va_D_fst hD (by rw [List.map_append, List.map_append, hfst])) hS)
  rw [← hr1]
  exact va_recv hK (app_L hP) hci h0
end QL

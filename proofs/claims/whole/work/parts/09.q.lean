def va_AOA (ty : FieldType) (U : State) : Prop := (Cond.arrayOver (.array ty)).before #[] U = true
theorem va_AOA.use {ty : FieldType} {A : Array Value} {U : State} (h : va_AOA ty U) : (Cond.arrayOver (.array ty)).before A U = true := h
theorem va_AOA.moved {ty : FieldType} {u U : State} (hvm : u.vm.Alike U.vm) (h : va_AOA ty u) : va_AOA ty U := Jvm.Stand.arrayOver_alikeB hvm h

/-! ===== BEGIN new T[n][m]: the outer array a place, the inner ones among the pooled ===== -/
/-- f, but v at every address of l -/
def vr_up {α : Type} (f : Nat → α) (l : List Nat) (v : α) : Nat → α := fun a => if a ∈ l then v else f a
theorem vr_up_in {α : Type} {f : Nat → α} {l : List Nat} {v : α} {a : Nat} (h : a ∈ l) : vr_up f l v a = v := if_pos h
theorem vr_up_ne {α : Type} {f : Nat → α} {l : List Nat} {v : α} {a : Nat} (h : a ∉ l) : vr_up f l v a = f a := if_neg h
theorem vr_rows {L l : List Nat} {f : Nat → va_E} {e : va_E} (h : ∀ a, a ∈ l → a ∉ L) : va_pl L f ++ l.map (fun a => (a, e)) = va_pl (L ++ l) (vr_up f l e) := by
  unfold va_pl
  rw [List.map_append]
  congr 1
  · apply List.map_congr_left
    intro a ha
    rw [vr_up_ne (fun q => h a q ha)]
  · apply List.map_congr_left
    intro a ha
    rw [vr_up_in ha]
theorem vr_lay {X rows : va_W} {x : Nat × va_E} {pl : va_W} {D : va_G} {cl : List vw_C} {H : Heap} (hP : va_P D cl (((X ++ pl) ++ [x]) ++ rows) H) : va_P D cl ((X ++ [x]) ++ (pl ++ rows)) H := by
  rw [List.append_assoc (X ++ pl)] at hP
  have h := va_P.swap hP
  rw [← List.append_assoc X] at h
  have h2 := va_P.swap h
  rw [List.append_assoc (X ++ [x])] at h2
  exact h2
theorem vr_layD {X rows : va_W} {x : Nat × va_E} {pl : va_W} {A : Nat → Prop} (hD : va_D A (((X ++ pl) ++ [x]) ++ rows)) : va_D A ((X ++ [x]) ++ (pl ++ rows)) := by
  rw [List.append_assoc (X ++ pl)] at hD
  have h := va_D.swap hD
  rw [← List.append_assoc X] at h
  have h2 := va_D.swap h
  rw [List.append_assoc (X ++ [x])] at h2
  exact h2
theorem vr_outer (c : ClassId) (N h0 : Nat) : ∀ i : Nat, Jvm.Free.Multi.outerC c N h0 i = arrV c N (fun j => va_rf (if j < i then some (h0 + 1 + j) else none))
  | 0 => by
    show ({ cls := c, slots := Array.replicate N .null, vm := .none } : Cell) = _
    rw [arrV_new]
    refine congrArg (arrV c N) (funext fun j => ?_)
    simp [va_rf]
  | i + 1 => by
    show (Jvm.Free.Multi.outerC c N h0 i).setSlot i (.ref (h0 + 1 + i)) = _
    rw [vr_outer c N h0 i, arrV_store]
    refine congrArg (arrV c N) (funext fun j => ?_)
    by_cases e : j = i
    · subst e
      simp [updV, va_rf]
    · by_cases h : j < i
      · simp [updV, e, h, Nat.lt_succ_of_lt h]
      · simp [updV, e, h, show ¬ j < i + 1 by omega]
section VGM
variable {p : Program} {l : Launch} {e : Env} {R : Room} {s : State} {m : MethodId} {args : Array Value} {below : List Frame} {meth : Method} {c : Code} {H : Heap} {locs : List Loc} {cells slots : Nat} {Q : State → Prop}
variable {cc : ByteArray} {pc : Nat} {ls : Array Slot} {rest : List Value} {D : va_G} {cl : List vw_C} {A : Nat → Prop} {a : Nat} {tys : List (ClassId × FieldType)} {ws : va_W} {H0 : Heap}
theorem va_mna {X : va_W} {L : List Nat} {f : Nat → va_E} {cc : ByteArray} (hexec : p.tables.exec = Jvm.exec) (hb : c.code = cc) {own : String} {index : Nat} {ty : FieldType} {cy : ClassId} (hown : s.vm.findClass own = some m.cls) (hclink : (Cond.classLink own index ("[" ++ (FieldType.array ty).toString)).before args s = true) (hover : va_AOA ty s) (harr : (Cond.arrayClass ty).before args s = true) (hcy : s.vm.findClass (FieldType.array ty).toString = some cy)
    (hK : va_K D cl tys s) (hP : va_P D cl (X ++ va_pl L f) H) (hD : va_D A (X ++ va_pl L f)) (hS : va_S A H0 H locs) (hA : ∀ q, H0.size ≤ q → A q) {n k : Int32} {N' K' : Nat} {z : vp_A} (hn : ¬ n < 0) (hk : ¬ k < 0) (hN : n.toNatClampNeg = N') (hM : k.toNatClampNeg = K')
    (hb1 : N' * 4 ≤ 536870912) (hb2 : K' * componentBytes ty ≤ 536870912) (hb3 : K' ≤ 536870912) (hdf : fits ty (defaultValue ty) = true) (hdd : (defaultValue ty).isDefault = true) (hcells : cells + (1 + N') ≤ R.cells) (hslots : slots + (N' + N' * K') ≤ R.slots) (hz : ∀ c : ClassId, Jvm.Free.Multi.innerC c K' (defaultValue ty) = vp_cell c z) (hdg : decode cc pc = .ok (.multianewarray index 2, 4))
    (kk : ∀ (q : Nat) (r : Nat → Nat) (cA : ClassId) (H1 : Heap), (∀ i j : Nat, i < N' → j < N' → r i = r j → i = j) → (∀ i : Nat, i < N' → r i ∉ L) → va_K D cl (tys ++ [(cA, .array ty)]) s →
      va_P D cl ((X ++ [(q, .inl (cA, N', .inr (.inr (.inr (.inr (fun i => if i < N' then some (r i) else none))))))]) ++ va_pl (L ++ (List.range N').map r) (vr_up f ((List.range N').map r) (.inl (cy, z)))) H1 → va_D A ((X ++ [(q, .inl (cA, N', .inr (.inr (.inr (.inr (fun i => if i < N' then some (r i) else none))))))]) ++ va_pl (L ++ (List.range N').map r) (vr_up f ((List.range N').map r) (.inl (cy, z)))) → va_S A H0 H1 locs →
      W p l e R s m args below meth c H1 locs (cells + 1 + N') (slots + N' + N' * K') Q (F0 m (pc + 4) ls (.ref q :: rest))) : W p l e R s m args below meth c H locs cells slots Q (F0 m pc ls (.int k :: .int n :: rest)) := by
  subst hN
  subst hM
  intro T hT Xs
  obtain ⟨vm₁, cA, comp, -, fA, fC, hO, -, X', step⟩ := Xs.multianewarray2F hexec hown hclink (va_AOA.use hover) harr (g := F0 m pc ls (.int k :: .int n :: rest)) rfl (by rw [hb]; exact hdg) rfl hn hk hb1 hb2 hb3 hdf hdd hcells hslots
  have ec : some cy = some comp := hcy.symm.trans fC
  cases ec
  generalize hF : Jvm.Free.Multi.fill (T.setVm vm₁) cA cy n.toNatClampNeg k.toNatClampNeg (defaultValue ty) n.toNatClampNeg = F at X' step
  have hTh : (T.setVm vm₁).heap = H := hT
  obtain ⟨f1, f2, -, -⟩ := Jvm.Free.Multi.fill_facts (T.setVm vm₁) cA cy n.toNatClampNeg k.toNatClampNeg (defaultValue ty) n.toNatClampNeg
  rw [hF, hTh] at f1 f2
  have hold : ∀ x : Nat, x < H.size → F.heap[x]? = H[x]? := fun x hx => by
    have := Jvm.Free.Multi.fill_old (T.setVm vm₁) cA cy n.toNatClampNeg k.toNatClampNeg (defaultValue ty) (a := x) (by rw [hTh]; exact hx) n.toNatClampNeg
    rw [hF, hTh] at this
    exact this
  have hrow : ∀ j : Nat, j < n.toNatClampNeg → F.heap[H.size + 1 + j]? = some (vp_cell cy z) := fun j hj => by
    have := Jvm.Free.Multi.fill_inner (T.setVm vm₁) cA cy n.toNatClampNeg k.toNatClampNeg (defaultValue ty) n.toNatClampNeg j hj
    rw [hF, hTh, hz] at this
    exact this
  have hout : Jvm.Free.Multi.outerC cA n.toNatClampNeg H.size n.toNatClampNeg = vp_cell cA (n.toNatClampNeg, .inr (.inr (.inr (.inr (fun i => if i < n.toNatClampNeg then some (H.size + 1 + i) else none))))) := by
    rw [vp_cell_q]
    exact vr_outer cA n.toNatClampNeg H.size n.toNatClampNeg
  rw [hout] at f2
  have hlt : ∀ a, a ∈ L → a < H.size := fun a ha => by
    obtain ⟨k9, hk9⟩ := va_pl_get (X := X) (f := f) ha
    exact (hP k9 _ hk9).lt
  have hnl : ∀ i : Nat, i < n.toNatClampNeg → H.size + 1 + i ∉ L := fun i _ h => by
    have := hlt _ h
    omega
  have hnm : ∀ a, a ∈ (List.range n.toNatClampNeg).map (fun i => H.size + 1 + i) → a ∉ L := fun a ha h => by
    obtain ⟨i, -, rfl⟩ := List.mem_map.mp ha
    have := hlt _ h
    omega
  have hP0 : va_P D cl (X ++ va_pl L f) F.heap := hP.kept (fun k9 x hx => hold x.1 ((hP k9 x hx).lt))
  have hP1 : va_P D cl ((X ++ va_pl L f) ++ [(H.size, .inl (cA, n.toNatClampNeg, .inr (.inr (.inr (.inr (fun i => if i < n.toNatClampNeg then some (H.size + 1 + i) else none))))))]) F.heap := hP0.app (fun k9 x hx => by
    have h0 : k9 < 1 := (List.getElem?_eq_some_iff.mp hx).1
    rw [show k9 = 0 by omega] at hx
    cases hx
    exact f2)
  have hP2 : va_P D cl (((X ++ va_pl L f) ++ [(H.size, .inl (cA, n.toNatClampNeg, .inr (.inr (.inr (.inr (fun i => if i < n.toNatClampNeg then some (H.size + 1 + i) else none))))))]) ++ ((List.range n.toNatClampNeg).map (fun i => H.size + 1 + i)).map (fun a => (a, .inl (cy, z)))) F.heap := hP1.app (fun k9 x hx => by
    obtain ⟨a, ha, rfl⟩ := List.mem_map.mp (List.mem_of_getElem? hx)
    obtain ⟨i, hi, rfl⟩ := List.mem_map.mp ha
    exact hrow i (List.mem_range.mp hi))
  have hD2 : va_D A (((X ++ va_pl L f) ++ [(H.size, .inl (cA, n.toNatClampNeg, .inr (.inr (.inr (.inr (fun i => if i < n.toNatClampNeg then some (H.size + 1 + i) else none))))))]) ++ ((List.range n.toNatClampNeg).map (fun i => H.size + 1 + i)).map (fun a => (a, .inl (cy, z)))) := by
    have hD1 := hD.push (e := .inl (cA, n.toNatClampNeg, .inr (.inr (.inr (.inr (fun i => if i < n.toNatClampNeg then some (H.size + 1 + i) else none)))))) hP rfl (hA _ hS.1)
    generalize hW1 : (X ++ va_pl L f) ++ [(H.size, .inl (cA, n.toNatClampNeg, .inr (.inr (.inr (.inr (fun i => if i < n.toNatClampNeg then some (H.size + 1 + i) else none))))))] = W1 at hD1 hP1 ⊢
    have hle : ∀ (k9 : Nat) (x : Nat × va_E), W1[k9]? = some x → x.1 ≤ H.size := fun k9 x hx => by
      rw [← hW1] at hx
      by_cases hl : k9 < (X ++ va_pl L f).length
      · rw [List.getElem?_append_left hl] at hx
        exact Nat.le_of_lt ((hP k9 x hx).lt)
      · rw [List.getElem?_append_right (by omega)] at hx
        have h0 : k9 - (X ++ va_pl L f).length < 1 := (List.getElem?_eq_some_iff.mp hx).1
        rw [show k9 - (X ++ va_pl L f).length = 0 by omega] at hx
        cases hx
        exact Nat.le_refl _
    have hr : ∀ (k9 : Nat) (x : Nat × va_E), (((List.range n.toNatClampNeg).map (fun i => H.size + 1 + i)).map (fun a => ((a, .inl (cy, z)) : Nat × va_E)))[k9]? = some x → x.1 = H.size + 1 + k9 := fun k9 x hx => by
      rw [List.getElem?_map, List.getElem?_map] at hx
      by_cases h9 : k9 < n.toNatClampNeg
      · rw [List.getElem?_range h9] at hx
        cases hx
        rfl
      · have hn0 : (List.range n.toNatClampNeg)[k9]? = none := List.getElem?_eq_none (by rw [List.length_range]; omega)
        rw [hn0] at hx
        cases hx
    refine ⟨fun i j x y hi hj hxy => ?_, fun k9 x hx => ?_⟩
    · by_cases h1 : i < W1.length <;> by_cases h2 : j < W1.length
      · rw [List.getElem?_append_left h1] at hi
        rw [List.getElem?_append_left h2] at hj
        exact hD1.1 i j x y hi hj hxy
      · rw [List.getElem?_append_left h1] at hi
        rw [List.getElem?_append_right (by omega)] at hj
        have := hle _ _ hi
        have := hr _ _ hj
        omega
      · rw [List.getElem?_append_right (by omega)] at hi
        rw [List.getElem?_append_left h2] at hj
        have := hle _ _ hj
        have := hr _ _ hi
        omega
      · rw [List.getElem?_append_right (by omega)] at hi hj
        have := hr _ _ hi
        have := hr _ _ hj
        omega
    · by_cases h1 : k9 < W1.length
      · rw [List.getElem?_append_left h1] at hx
        exact hD1.2 k9 x hx
      · rw [List.getElem?_append_right (by omega)] at hx
        have := hr _ _ hx
        exact hA _ (by have := hS.1; omega)
  have hAr : ArrOfT s cA (.array ty) := fun N9 z9 => by
    obtain ⟨-, k9, hk9, cm9, hkk9⟩ := (hO 0 0 0).1
    exact ⟨(fun q hq => by cases hq), k9, hk9, cm9, hkk9⟩
  have hK2 : va_K D cl (tys ++ [(cA, .array ty)]) s := ⟨hK.1, fun k9 x hx => by
    by_cases hl : k9 < tys.length
    · rw [List.getElem?_append_left hl] at hx
      exact hK.2 k9 x hx
    · rw [List.getElem?_append_right (by omega)] at hx
      have h0 : k9 - tys.length < 1 := (List.getElem?_eq_some_iff.mp hx).1
      rw [show k9 - tys.length = 0 by omega] at hx
      cases hx
      exact ⟨hAr, fA⟩⟩
  obtain ⟨t, a1, b1⟩ := kk H.size (fun i => H.size + 1 + i) cA F.heap (fun i j _ _ h => by have h9 : H.size + 1 + i = H.size + 1 + j := h; omega) hnl hK2 (by rw [← vr_rows hnm]; exact vr_lay hP2) (by rw [← vr_rows hnm]; exact vr_layD hD2) ⟨by rw [f1]; have := hS.1; omega, fun x h1 h2 => (hold x (Nat.lt_of_lt_of_le h1 hS.1)).trans (hS.2.1 x h1 h2), hS.2.2⟩ F rfl X'
  refine ⟨t, step t ?_, b1⟩
  have e : T.heap.size = H.size := by rw [hT]
  rw [e]
  exact a1
end VGM
/-! ===== END ===== -/
/-! ===== rows where cells may come: constructors, the law ===== -/
def WA (l : Launch) (D : va_G) (K : KT) (nL pc : Nat) (lv : List (Nat × Value)) (st : List Value) (ws : va_W) (ce sl : Nat) : Prop :=
  match K with
  | (p, e, R, s, m, args, below, meth, c, A, Q) => ∀ (ls : Array Slot) (H : Heap) (locs : List Loc), lv_has ls nL lv → va_P D vwCl ws H → va_D A ws → va_S A s.heap H locs → W p l e R s m args below meth c H locs ce sl Q (F0 m pc ls st)
def AO (U : State) : Prop := va_AO "ShoesHall$Text" U ∧ va_AO "ShoesHall$Sheet" U ∧ va_AOA .int U
theorem AO.moved {u U : State} (hvm : u.vm.Alike U.vm) (h : AO u) : AO U := ⟨h.1.moved hvm, h.2.1.moved hvm, va_AOA.moved hvm h.2.2⟩
def OKc (D : va_G) (c0 : Nat → ClassId) (K : KT) (own : String) (cc : ByteArray) (nL : Nat) (rm : Room) : Prop :=
  match K with
  | (p, e, R, s, m, args, below, meth, c, A, Q) => p.tables.exec = Jvm.exec ∧ c.code = cc ∧ c.maxLocals = nL ∧ s.vm.findClass own = some m.cls ∧ (∀ w ∈ tbl, w.before args s = true) ∧ R = rm ∧ va_K D vwCl (TY c0) s ∧ NW s ∧ (∀ q, s.heap.size ≤ q → A q) ∧ (∀ w ∈ lw_tbl, goodWord w = true → w.before args s = true) ∧ AO s
def isInit (K : KT) : Prop := match K with
  | (p, e, R, s, m, args, below, meth, c, A, Q) => meth.name = "<init>"
section QQ
variable {l : Launch} {D : va_G} {c0 : Nat → ClassId} {K : KT} {own : String} {cc : ByteArray} {nL : Nat} {rm : Room} {pc ce sl : Nat} {lv : List (Nat × Value)} {st : List Value} {ws : va_W}
theorem q_iadd (h : OKc D c0 K own cc nL rm) {x y : Int32} {n : Nat} (hd : decode cc pc = .ok (.iadd, 1)) (hn : pc + 1 = n) (kk : WA l D K nL n lv (.int (x + y) :: st) ws ce sl) : WA l D K nL pc lv (.int y :: .int x :: st) ws ce sl := by
  subst hn
  obtain ⟨p, e, R, s, m, args, below, meth, c, A, Q⟩ := K
  obtain ⟨hx, hb, hml, hown, hts, hR, hK, hNW, hA, hgood, hAO⟩ := h
  intro ls H locs hl hP hD hS
  exact lv_iadd hx hb hd (kk ls H locs hl hP hD hS)
theorem q_isub (h : OKc D c0 K own cc nL rm) {x y : Int32} {n : Nat} (hd : decode cc pc = .ok (.isub, 1)) (hn : pc + 1 = n) (kk : WA l D K nL n lv (.int (x - y) :: st) ws ce sl) : WA l D K nL pc lv (.int y :: .int x :: st) ws ce sl := by
  subst hn
  obtain ⟨p, e, R, s, m, args, below, meth, c, A, Q⟩ := K
  obtain ⟨hx, hb, hml, hown, hts, hR, hK, hNW, hA, hgood, hAO⟩ := h
  intro ls H locs hl hP hD hS
  exact lv_isub hx hb hd (kk ls H locs hl hP hD hS)
theorem q_iand (h : OKc D c0 K own cc nL rm) {x y : Int32} {n : Nat} (hd : decode cc pc = .ok (.iand, 1)) (hn : pc + 1 = n) (kk : WA l D K nL n lv (.int (x &&& y) :: st) ws ce sl) : WA l D K nL pc lv (.int y :: .int x :: st) ws ce sl := by
  subst hn
  obtain ⟨p, e, R, s, m, args, below, meth, c, A, Q⟩ := K
  obtain ⟨hx, hb, hml, hown, hts, hR, hK, hNW, hA, hgood, hAO⟩ := h
  intro ls H locs hl hP hD hS
  exact lv_iand hx hb hd (kk ls H locs hl hP hD hS)
theorem q_lcmp (h : OKc D c0 K own cc nL rm) {x y : Int64} {n : Nat} (hd : decode cc pc = .ok (.lcmp, 1)) (hn : pc + 1 = n) (kk : WA l D K nL n lv (.int (lg_cmp x y) :: st) ws ce sl) : WA l D K nL pc lv (.long y :: .long x :: st) ws ce sl := by
  subst hn
  obtain ⟨p, e, R, s, m, args, below, meth, c, A, Q⟩ := K
  obtain ⟨hx, hb, hml, hown, hts, hR, hK, hNW, hA, hgood, hAO⟩ := h
  intro ls H locs hl hP hD hS
  exact W.lcmp hx hb hd (kk ls H locs hl hP hD hS)
theorem q_iconst (h : OKc D c0 K own cc nL rm) {z : Int} (v : Int32) {n : Nat} (hd : decode cc pc = .ok (.iconst z, 1)) (hv : Int32.ofInt z = v) (hn : pc + 1 = n) (kk : WA l D K nL n lv (.int v :: st) ws ce sl) : WA l D K nL pc lv (st) ws ce sl := by
  subst hn
  obtain ⟨p, e, R, s, m, args, below, meth, c, A, Q⟩ := K
  obtain ⟨hx, hb, hml, hown, hts, hR, hK, hNW, hA, hgood, hAO⟩ := h
  intro ls H locs hl hP hD hS
  exact lv_iconst hx hb hd hv (kk ls H locs hl hP hD hS)
theorem q_bipush (h : OKc D c0 K own cc nL rm) {z : Int} (v : Int32) {n : Nat} (hd : decode cc pc = .ok (.bipush z, 2)) (hv : (Int8.ofInt z).toInt32 = v) (hn : pc + 2 = n) (kk : WA l D K nL n lv (.int v :: st) ws ce sl) : WA l D K nL pc lv (st) ws ce sl := by
  subst hn
  obtain ⟨p, e, R, s, m, args, below, meth, c, A, Q⟩ := K
  obtain ⟨hx, hb, hml, hown, hts, hR, hK, hNW, hA, hgood, hAO⟩ := h
  intro ls H locs hl hP hD hS
  exact lv_bipush hx hb hd hv (kk ls H locs hl hP hD hS)
theorem q_sipush (h : OKc D c0 K own cc nL rm) {z : Int} (v : Int32) {n : Nat} (hd : decode cc pc = .ok (.sipush z, 3)) (hv : (Int16.ofInt z).toInt32 = v) (hn : pc + 3 = n) (kk : WA l D K nL n lv (.int v :: st) ws ce sl) : WA l D K nL pc lv (st) ws ce sl := by
  subst hn
  obtain ⟨p, e, R, s, m, args, below, meth, c, A, Q⟩ := K
  obtain ⟨hx, hb, hml, hown, hts, hR, hK, hNW, hA, hgood, hAO⟩ := h
  intro ls H locs hl hP hD hS
  exact lv_sipush hx hb hd hv (kk ls H locs hl hP hD hS)
theorem q_iload_n (h : OKc D c0 K own cc nL rm) {k : Fin 4} {i : Nat} {x : Int32} (j : Nat) {n : Nat} (hd : decode cc pc = .ok (.iload_n k, 1)) (hi : (k : Nat) = i) (hj : lv[j]? = some (i, .int x)) (hn : pc + 1 = n) (kk : WA l D K nL n lv (.int x :: st) ws ce sl) : WA l D K nL pc lv (st) ws ce sl := by
  subst hn
  obtain ⟨p, e, R, s, m, args, below, meth, c, A, Q⟩ := K
  obtain ⟨hx, hb, hml, hown, hts, hR, hK, hNW, hA, hgood, hAO⟩ := h
  intro ls H locs hl hP hD hS
  exact lv_iload_n hx hb hd hi (lv_at hl j hj) (kk ls H locs hl hP hD hS)
theorem q_aload_n (h : OKc D c0 K own cc nL rm) {k : Fin 4} {i : Nat} {x : Nat} (j : Nat) {n : Nat} (hd : decode cc pc = .ok (.aload_n k, 1)) (hi : (k : Nat) = i) (hj : lv[j]? = some (i, .ref x)) (hn : pc + 1 = n) (kk : WA l D K nL n lv (.ref x :: st) ws ce sl) : WA l D K nL pc lv (st) ws ce sl := by
  subst hn
  obtain ⟨p, e, R, s, m, args, below, meth, c, A, Q⟩ := K
  obtain ⟨hx, hb, hml, hown, hts, hR, hK, hNW, hA, hgood, hAO⟩ := h
  intro ls H locs hl hP hD hS
  exact lv_aload_n hx hb hd hi (lv_at hl j hj) (kk ls H locs hl hP hD hS)
theorem q_istore_n (h : OKc D c0 K own cc nL rm) {k : Fin 4} {i : Nat} {x : Int32} (lv' : List (Nat × Value)) {n : Nat} (hd : decode cc pc = .ok (.istore_n k, 1)) (hi : (k : Nat) = i) (hlt : i < nL) (hv : lset1 lv i (.int x) = lv') (hn : pc + 1 = n) (kk : WA l D K nL n lv' (st) ws ce sl) : WA l D K nL pc lv (.int x :: st) ws ce sl := by
  subst hn
  obtain ⟨p, e, R, s, m, args, below, meth, c, A, Q⟩ := K
  obtain ⟨hx, hb, hml, hown, hts, hR, hK, hNW, hA, hgood, hAO⟩ := h
  intro ls H locs hl hP hD hS
  exact lv_istore_n hx hb hd hi hl hlt rfl (fun ls hl => kk ls H locs (lv_lins hl hv) hP hD hS)
theorem q_astore_n (h : OKc D c0 K own cc nL rm) {k : Fin 4} {i : Nat} {x : Nat} (lv' : List (Nat × Value)) {n : Nat} (hd : decode cc pc = .ok (.astore_n k, 1)) (hi : (k : Nat) = i) (hlt : i < nL) (hv : lset1 lv i (.ref x) = lv') (hn : pc + 1 = n) (kk : WA l D K nL n lv' (st) ws ce sl) : WA l D K nL pc lv (.ref x :: st) ws ce sl := by
  subst hn
  obtain ⟨p, e, R, s, m, args, below, meth, c, A, Q⟩ := K
  obtain ⟨hx, hb, hml, hown, hts, hR, hK, hNW, hA, hgood, hAO⟩ := h
  intro ls H locs hl hP hD hS
  exact lv_astore_n hx hb hd hi hl hlt rfl (fun ls hl => kk ls H locs (lv_lins hl hv) hP hD hS)
theorem q_iinc (h : OKc D c0 K own cc nL rm) {i : Nat} {z : Int} {x : Int32} (j : Nat) (v : Int32) (lv' : List (Nat × Value)) {n : Nat} (hd : decode cc pc = .ok (.iinc i z, 3)) (hj : lv[j]? = some (i, .int x)) (hz : x + Int32.ofInt z = v) (hlt : i < nL) (hv : lset1 lv i (.int v) = lv') (hn : pc + 3 = n) (kk : WA l D K nL n lv' (st) ws ce sl) : WA l D K nL pc lv (st) ws ce sl := by
  subst hn
  obtain ⟨p, e, R, s, m, args, below, meth, c, A, Q⟩ := K
  obtain ⟨hx, hb, hml, hown, hts, hR, hK, hNW, hA, hgood, hAO⟩ := h
  intro ls H locs hl hP hD hS
  exact lv_iinc hx hb hd hl (k := j) hj hz hlt rfl (fun ls hl => kk ls H locs (lv_lins hl hv) hP hD hS)
theorem q_dup (h : OKc D c0 K own cc nL rm) {v : Value} {n : Nat} (hd : decode cc pc = .ok (.dup, 1)) (hc : v.category = 1) (hn : pc + 1 = n) (kk : WA l D K nL n lv (v :: v :: st) ws ce sl) : WA l D K nL pc lv (v :: st) ws ce sl := by
  subst hn
  obtain ⟨p, e, R, s, m, args, below, meth, c, A, Q⟩ := K
  obtain ⟨hx, hb, hml, hown, hts, hR, hK, hNW, hA, hgood, hAO⟩ := h
  intro ls H locs hl hP hD hS
  exact lv_dup hx hb hd hc (kk ls H locs hl hP hD hS)
theorem q_if_eq (h : OKc D c0 K own cc nL rm) {x : Int32} {off : Int} (tgt : Nat) {n : Nat} (hd : decode cc pc = .ok (.ifCond .eq off, 3)) (ht : (pc : Int) + off = (tgt : Int)) (hn : pc + 3 = n) (kt : x = 0 → WA l D K nL tgt lv (st) ws ce sl) (kf : ¬ x = 0 → WA l D K nL n lv (st) ws ce sl) : WA l D K nL pc lv (.int x :: st) ws ce sl := by
  subst hn
  obtain ⟨p, e, R, s, m, args, below, meth, c, A, Q⟩ := K
  obtain ⟨hx, hb, hml, hown, hts, hR, hK, hNW, hA, hgood, hAO⟩ := h
  intro ls H locs hl hP hD hS
  exact lv_if_eq hx hb hd ht (fun z => kt z ls H locs hl hP hD hS) (fun z => kf z ls H locs hl hP hD hS)
theorem q_icmp_eq (h : OKc D c0 K own cc nL rm) {x y : Int32} {off : Int} (tgt : Nat) {n : Nat} (hd : decode cc pc = .ok (.if_icmp .eq off, 3)) (ht : (pc : Int) + off = (tgt : Int)) (hn : pc + 3 = n) (kt : x = y → WA l D K nL tgt lv (st) ws ce sl) (kf : ¬ x = y → WA l D K nL n lv (st) ws ce sl) : WA l D K nL pc lv (.int y :: .int x :: st) ws ce sl := by
  subst hn
  obtain ⟨p, e, R, s, m, args, below, meth, c, A, Q⟩ := K
  obtain ⟨hx, hb, hml, hown, hts, hR, hK, hNW, hA, hgood, hAO⟩ := h
  intro ls H locs hl hP hD hS
  exact lv_icmp_eq hx hb hd ht (fun z => kt z ls H locs hl hP hD hS) (fun z => kf z ls H locs hl hP hD hS)
theorem q_icmp_ge (h : OKc D c0 K own cc nL rm) {x y : Int32} {off : Int} (tgt : Nat) {n : Nat} (hd : decode cc pc = .ok (.if_icmp .ge off, 3)) (ht : (pc : Int) + off = (tgt : Int)) (hn : pc + 3 = n) (kt : y ≤ x → WA l D K nL tgt lv (st) ws ce sl) (kf : ¬ y ≤ x → WA l D K nL n lv (st) ws ce sl) : WA l D K nL pc lv (.int y :: .int x :: st) ws ce sl := by
  subst hn
  obtain ⟨p, e, R, s, m, args, below, meth, c, A, Q⟩ := K
  obtain ⟨hx, hb, hml, hown, hts, hR, hK, hNW, hA, hgood, hAO⟩ := h
  intro ls H locs hl hP hD hS
  exact lv_icmp_ge hx hb hd ht (fun z => kt z ls H locs hl hP hD hS) (fun z => kf z ls H locs hl hP hD hS)
theorem q_icmp_gt (h : OKc D c0 K own cc nL rm) {x y : Int32} {off : Int} (tgt : Nat) {n : Nat} (hd : decode cc pc = .ok (.if_icmp .gt off, 3)) (ht : (pc : Int) + off = (tgt : Int)) (hn : pc + 3 = n) (kt : y < x → WA l D K nL tgt lv (st) ws ce sl) (kf : ¬ y < x → WA l D K nL n lv (st) ws ce sl) : WA l D K nL pc lv (.int y :: .int x :: st) ws ce sl := by
  subst hn
  obtain ⟨p, e, R, s, m, args, below, meth, c, A, Q⟩ := K
  obtain ⟨hx, hb, hml, hown, hts, hR, hK, hNW, hA, hgood, hAO⟩ := h
  intro ls H locs hl hP hD hS
  exact lv_icmp_gt hx hb hd ht (fun z => kt z ls H locs hl hP hD hS) (fun z => kf z ls H locs hl hP hD hS)
theorem q_goto (h : OKc D c0 K own cc nL rm) {off : Int} (tgt : Nat) (hd : decode cc pc = .ok (.goto off, 3)) (ht : (pc : Int) + off = (tgt : Int)) (kk : WA l D K nL tgt lv (st) ws ce sl) : WA l D K nL pc lv (st) ws ce sl := by
  obtain ⟨p, e, R, s, m, args, below, meth, c, A, Q⟩ := K
  obtain ⟨hx, hb, hml, hown, hts, hR, hK, hNW, hA, hgood, hAO⟩ := h
  intro ls H locs hl hP hD hS
  exact lv_goto hx hb hd ht (kk ls H locs hl hP hD hS)
theorem q_tableIn (h : OKc D c0 K own cc nL rm) {dflt lo hi : Int} {offs : Array Int} {len : Nat} {x : Int32} {off : Int} (tgt : Nat) (hd : decode cc pc = .ok (.tableswitch dflt lo hi offs, len)) (h1 : ¬ x.toInt < lo) (h2 : ¬ hi < x.toInt) (ho : offs[(x.toInt - lo).toNat]? = some off) (ht : (pc : Int) + off = (tgt : Int)) (kk : WA l D K nL tgt lv (st) ws ce sl) : WA l D K nL pc lv (.int x :: st) ws ce sl := by
  obtain ⟨p, e, R, s, m, args, below, meth, c, A, Q⟩ := K
  obtain ⟨hx, hb, hml, hown, hts, hR, hK, hNW, hA, hgood, hAO⟩ := h
  intro ls H locs hl hP hD hS
  exact lv_tableIn hx hb hd h1 h2 ho ht (kk ls H locs hl hP hD hS)
theorem q_tableOut (h : OKc D c0 K own cc nL rm) {dflt lo hi : Int} {offs : Array Int} {len : Nat} {x : Int32} (tgt : Nat) (hd : decode cc pc = .ok (.tableswitch dflt lo hi offs, len)) (h1 : x.toInt < lo ∨ hi < x.toInt) (ht : (pc : Int) + dflt = (tgt : Int)) (kk : WA l D K nL tgt lv (st) ws ce sl) : WA l D K nL pc lv (.int x :: st) ws ce sl := by
  obtain ⟨p, e, R, s, m, args, below, meth, c, A, Q⟩ := K
  obtain ⟨hx, hb, hml, hown, hts, hR, hK, hNW, hA, hgood, hAO⟩ := h
  intro ls H locs hl hP hD hS
  exact lv_tableOut hx hb hd h1 ht (kk ls H locs hl hP hD hS)
theorem q_get (h : OKc D c0 K own cc nL rm) {ci : Nat} {C : String} {T : u_T} {N : Nat} {ty0 : Nat → FieldType} (F : CF ci C T N ty0) {a i : Nat} (q0 k : Nat) {fs : List Value} {v : Value} {n : Nat} (hw : Cond.fieldLink own i (T k).1 (T k).2.1 (T k).2.2.1 ∈ tbl) (he : ws[q0]? = some (a, .inr (ci, fs))) (hk : k < N) (hv : fs[k]? = some v) (hd : decode cc pc = .ok (.getfield i, 3)) (hn : pc + 3 = n) (kk : WA l D K nL n lv (v :: st) ws ce sl) : WA l D K nL pc lv (.ref a :: st) ws ce sl := by
  subst hn
  obtain ⟨p, e, R, s, m, args, below, meth, c, A, Q⟩ := K
  obtain ⟨hx, hb, hml, hown, hts, hR, hK, hNW, hA, hgood, hAO⟩ := h
  intro ls H locs hl hP hD hS
  exact va_get hx hb hts F.2.1 hown hK hP q0 he F.1 k hk (hts _ hw) (fun _ z => z) hv hd (kk ls H locs hl hP hD hS)
theorem q_put (h : OKc D c0 K own cc nL rm) {ci : Nat} {C : String} {T : u_T} {N : Nat} {ty0 : Nat → FieldType} (F : CF ci C T N ty0) {a i : Nat} (q0 k : Nat) {fs : List Value} {v : Value} (ws' : va_W) {n : Nat} (hw : Cond.fieldLink own i (T k).1 (T k).2.1 (T k).2.2.1 ∈ tbl) (he : ws[q0]? = some (a, .inr (ci, fs))) (hk : k < N) (hfin : (T k).2.2.2 = false) (hnr : narrow (ty0 k) v = v) (hfit : fits (ty0 k) v = true) (hlen : k < fs.length) (hws : ws.set q0 (a, .inr (ci, fs.set k v)) = ws') (hd : decode cc pc = .ok (.putfield i, 3)) (hn : pc + 3 = n) (kk : WA l D K nL n lv (st) ws' ce sl) : WA l D K nL pc lv (v :: .ref a :: st) ws ce sl := by
  subst hn
  obtain ⟨p, e, R, s, m, args, below, meth, c, A, Q⟩ := K
  obtain ⟨hx, hb, hml, hown, hts, hR, hK, hNW, hA, hgood, hAO⟩ := h
  intro ls H locs hl hP hD hS
  exact va_put hx hb hts F.2.1 ty0 F.2.2.1 F.2.2.2 hown hK hP hD hS q0 he F.1 k hk (hts _ hw) (fun _ z => z) hfin (F.2.2.1 k hk) hnr hfit hlen hd (fun H1 locs1 hP hD hS => kk ls H1 locs1 hl (hws ▸ hP) (hws ▸ hD) hS)
theorem q_iast (h : OKc D c0 K own cc nL rm) {a m0 : Nat} {f : Nat → Int32} {i x : Int32} (q0 : Nat) (ws' : va_W) {n : Nat} (he : ws[q0]? = some (a, .inl (c0 0, m0, .inl f))) (hi : vp_in i m0) (hws : ws.set q0 (a, .inl (c0 0, m0, .inl (upd f i.toNatClampNeg x))) = ws') (hd : decode cc pc = .ok (.iastore, 1)) (hn : pc + 1 = n) (kk : WA l D K nL n lv (st) ws' ce sl) : WA l D K nL pc lv (.int x :: .int i :: .ref a :: st) ws ce sl := by
  subst hn
  obtain ⟨p, e, R, s, m, args, below, meth, c, A, Q⟩ := K
  obtain ⟨hx, hb, hml, hown, hts, hR, hK, hNW, hA, hgood, hAO⟩ := h
  intro ls H locs hl hP hD hS
  exact va_iast hx hb hK hP hD hS q0 0 he rfl hi hd (fun H1 locs1 hP hD hS => kk ls H1 locs1 hl (hws ▸ hP) (hws ▸ hD) hS)
theorem q_lv (ks : List Nat) {lv' : List (Nat × Value)} (hl : lv_pick lv ks = lv') (kk : WA l D K nL pc lv' st ws ce sl) : WA l D K nL pc lv st ws ce sl := by
  obtain ⟨p, e, R, s, m, args, below, meth, c, A, Q⟩ := K
  intro ls H locs h hP hD hS
  exact kk ls H locs (lv_sub h ks hl) hP hD hS
theorem q_called {p : Program} {e : Env} {R : Room} {s : State} {m : MethodId} {args : Array Value} {below : List Frame} {meth : Method} {c : Code} {A : Nat → Prop} {Q : State → Prop} {H : Heap} {locs : List Loc} {ls : Array Slot} {a : Array Value} {wc wc' : va_W} {rv : Option Value} {st0 : List Value}
    (hr : va_Run p l e R s m args below meth c H locs ce sl 0 0 (F0 m pc ls st0) st (Qz D (wA wc) rv wc' a) (wA wc)) (hS : va_S A s.heap H locs) (hA : ∀ q, wA wc q → A q)
    (kk : ∀ (H1 : Heap) (locs1 : List Loc), va_P D vwCl wc' H1 → (∀ q : Nat, q < H.size → ¬ wA wc q → H1[q]? = H[q]?) → va_S A s.heap H1 locs1 → W p l e R s m args below meth c H1 locs1 ce sl Q (F0 m (pc + 3) ls (rv.toList ++ st))) : W p l e R s m args below meth c H locs ce sl Q (F0 m pc ls st0) := by
  intro T hT X
  obtain ⟨v, st₀, t, T', L, h0, X', hL, e1, e2, ⟨hv, hp, hz, hk⟩, step⟩ := hr T hT X
  cases hv
  rw [h0] at hz hk
  obtain ⟨t2, a1, b1⟩ := kk T'.heap (locs ++ L) (by rw [e1]; exact hp) (fun q h1 h2 => by rw [e1]; exact hk q h1 h2)
    ⟨Nat.le_trans hS.1 (by rw [e1]; exact hz), fun q h1 h2 => by rw [e1, hk q (Nat.lt_of_lt_of_le h1 hS.1) (fun z => h2 (hA q z))]; exact hS.2.1 q h1 h2, fun q hq => by
      rcases List.mem_append.mp hq with h | h
      · exact hS.2.2 q h
      · exact hA _ (hL q h)⟩ T' rfl X'
  exact ⟨t2, step t2 a1, b1⟩
theorem q_callV (h : OKc D c0 K own cc nL rm) {y : MethodName} {cc' : ByteArray} {nL' : Nat} {ret' : Option FieldType} {rm' : Room} {np i b : Nat} {As : List Value} {wc wc' : va_W} {rv : Option Value} (M : MI y cc' nL' ret' np) (V : MV y) (hw : Cond.methodLink own i y ∈ tbl)
    (hM : Ct l D c0 y cc' nL' ret' rm' (.ref b :: As) wc rv wc') (isC : List Nat) {ci : Nat} {fs : List Value} {r : vw_C} (ws' : va_W) {n : Nat} (hC : isC.map (fun i => ws[i]?) = wc.map some) (hnd : va_nd isC = true) (h0 : wc[0]? = some (b, .inr (ci, fs))) (hci : vwCl[ci]? = some r) (hr1 : r.1 = y.cls) (hlen : isC.length = wc'.length)
    (hws : setAll ws isC wc' = ws') (hfst : ws'.map Prod.fst = ws.map Prod.fst) (hnp : As.length = np) (hrm : rm'.cells = 0 ∧ rm'.slots = 0 ∧ rm'.frames + 1 ≤ rm.frames ∧ 8 + (nL' + 11) + rm'.locals ≤ rm.locals) {st0 st1 : List Value} (hst1 : rv.toList ++ st = st1) (hst : st0 = As.reverse ++ .ref b :: st) (hsum : (st.map fun v => v.category).sum ≤ 8) (hce9 : ce ≤ rm.cells) (hsl9 : sl ≤ rm.slots) (hd : decode cc pc = .ok (.invokevirtual i, 3)) (hn : pc + 3 = n)
    (kk : WA l D K nL n lv st1 ws' ce sl) : WA l D K nL pc lv st0 ws ce sl := by
  subst hn hst hst1
  obtain ⟨p, e, R, s, m, args, below, meth, c, A, Q⟩ := K
  obtain ⟨hx, hb, hml, hown, hts, hR, hK, hNW, hA, hgood, hAO⟩ := h
  intro ls H locs hl hP hD hS
  subst hR hws
  have hPc := sub_P hP isC hC
  refine q_called (va_runV (As := As) (rest := st) ⟨hx, hb, hml, hown, hts⟩ hM (C := y.cls) ⟨callB_of np hts (tbl_in M.1) rfl hrm.1 hrm.2.1 (hts _ M.2.1) (hts _ hw) M.2.2 hrm.2.2, hts _ V.1, hts _ V.2⟩ ⟨Pz_blind, ?_, fun U hU hW => ⟨rfl, by rw [hU]; exact hPc, va_K.moved hW.alike hK, hNW.warm hW, sub_D hD isC hnd hC (fun _ => trivial)⟩⟩ rfl hnp hl.1 rfl (lv_room hsum) hd ⟨hce9, hsl9⟩) hS (sub_A hD isC hC) (fun H1 locs1 hP1 hk hS => kk ls H1 locs1 hl (setAll_P hP hD isC hC hlen hk hP1) (va_D_fst hD hfst) hS)
  rw [← hr1]
  exact va_recv hK hPc hci h0
theorem q_callT (h : OKc D c0 K own cc nL rm) {y : MethodName} {cc' : ByteArray} {nL' : Nat} {ret' : Option FieldType} {rm' : Room} {np i b : Nat} {As : List Value} {wc' : va_W} {rv : Option Value} (M : MI y cc' nL' ret' np) (V : MV y) (hw : Cond.methodLink own i y ∈ tbl)
    (hM : Ct l D c0 y cc' nL' ret' rm' (.ref b :: As) ws rv wc') {ci : Nat} {fs : List Value} {r : vw_C} (ws' : va_W) {n : Nat} (h0 : ws[0]? = some (b, .inr (ci, fs))) (hci : vwCl[ci]? = some r) (hr1 : r.1 = y.cls) 
    (hws : wc' = ws') (hfst : ws'.map Prod.fst = ws.map Prod.fst) (hnp : As.length = np) (hrm : rm'.cells = 0 ∧ rm'.slots = 0 ∧ rm'.frames + 1 ≤ rm.frames ∧ 8 + (nL' + 11) + rm'.locals ≤ rm.locals) {st0 st1 : List Value} (hst1 : rv.toList ++ st = st1) (hst : st0 = As.reverse ++ .ref b :: st) (hsum : (st.map fun v => v.category).sum ≤ 8) (hce9 : ce ≤ rm.cells) (hsl9 : sl ≤ rm.slots) (hd : decode cc pc = .ok (.invokevirtual i, 3)) (hn : pc + 3 = n)
    (kk : WA l D K nL n lv st1 ws' ce sl) : WA l D K nL pc lv st0 ws ce sl := by
  subst hn hst hst1
  obtain ⟨p, e, R, s, m, args, below, meth, c, A, Q⟩ := K
  obtain ⟨hx, hb, hml, hown, hts, hR, hK, hNW, hA, hgood, hAO⟩ := h
  intro ls H locs hl hP hD hS
  subst hR hws
  refine q_called (va_runV (As := As) (rest := st) ⟨hx, hb, hml, hown, hts⟩ hM (C := y.cls) ⟨callB_of np hts (tbl_in M.1) rfl hrm.1 hrm.2.1 (hts _ M.2.1) (hts _ hw) M.2.2 hrm.2.2, hts _ V.1, hts _ V.2⟩ ⟨Pz_blind, ?_, fun U hU hW => ⟨rfl, by rw [hU]; exact hP, va_K.moved hW.alike hK, hNW.warm hW, hD.weaken (fun _ _ _ _ => trivial)⟩⟩ rfl hnp hl.1 rfl (lv_room hsum) hd ⟨hce9, hsl9⟩) hS (fun q z => by obtain ⟨k, e, z⟩ := z; exact hD.2 k _ z) (fun H1 locs1 hP1 hk hS => kk ls H1 locs1 hl hP1 (va_D_fst hD hfst) hS)
  rw [← hr1]
  exact va_recv hK hP hci h0
theorem q_putF (h : OKc D c0 K own cc nL rm) (hi9 : isInit K) {ci : Nat} {C : String} {T : u_T} {N : Nat} {ty0 : Nat → FieldType} (F : CF ci C T N ty0) {a i : Nat} (q0 k : Nat) {fs : List Value} {v : Value} (ws' : va_W) {n : Nat} (hw : Cond.fieldLink own i (T k).1 (T k).2.1 (T k).2.2.1 ∈ tbl) (he : ws[q0]? = some (a, .inr (ci, fs))) (hk : k < N) (hfin : (T k).2.2.2 = true) (hdecl : (T k).1 = own) (hnr : narrow (ty0 k) v = v) (hfit : fits (ty0 k) v = true) (hlen : k < fs.length) (hws : ws.set q0 (a, .inr (ci, fs.set k v)) = ws') (hd : decode cc pc = .ok (.putfield i, 3)) (hn : pc + 3 = n) (kk : WA l D K nL n lv st ws' ce sl) : WA l D K nL pc lv (v :: .ref a :: st) ws ce sl := by
  subst hn
  obtain ⟨p, e, R, s, m, args, below, meth, c, A, Q⟩ := K
  obtain ⟨hx, hb, hml, hown, hts, hR, hK, hNW, hA, hgood, hAO⟩ := h
  intro ls H locs hl hP hD hS
  exact va_putF hx hb hts F.2.1 ty0 F.2.2.1 F.2.2.2 hown hK hP hD hS q0 he F.1 k hk (hts _ hw) (fun _ z => z) hfin hi9 hdecl (F.2.2.1 k hk) hnr hfit hlen hd (fun H1 locs1 hP hD hS => kk ls H1 locs1 hl (hws ▸ hP) (hws ▸ hD) hS)
theorem m_obj1 : Cond.instanceMethod objectInit ∈ tbl := by decide +kernel
theorem m_obj2 : Cond.code objectInit ⟨#[0xb1]⟩ 1 none ∈ tbl := by decide +kernel
theorem q_obj (h : OKc D c0 K own cc nL rm) {a i : Nat} {n : Nat} (hw : Cond.methodLink own i objectInit ∈ tbl) (hfr : 1 ≤ rm.frames) (hlo : (st.map fun v => v.category).sum + 12 ≤ rm.locals) (hd : decode cc pc = .ok (.invokespecial i, 3)) (hn : pc + 3 = n) (kk : WA l D K nL n lv st ws ce sl) : WA l D K nL pc lv (.ref a :: st) ws ce sl := by
  subst hn
  obtain ⟨p, e, R, s, m, args, below, meth, c, A, Q⟩ := K
  obtain ⟨hx, hb, hml, hown, hts, hR, hK, hNW, hA, hgood, hAO⟩ := h
  intro ls H locs hl hP hD hS
  subst hR
  exact W.objInit hx hb hown (hts _ hw) (hts _ m_obj1) (hts _ m_obj2) rfl (by rw [hml]; exact hl.1) rfl hd hfr (by rw [show (F0 m pc ls (Value.ref a :: st)).monitorRoom = 0 from rfl]; simpa using hlo) (kk ls H locs hl hP hD hS)
/-- one array class bears one name -/
theorem one_cls {s : State} {ty : FieldType} {c1 c2 : ClassId} (h1 : va_RA s c1 ty) (h2 : va_RA s c2 ty) : c1 = c2 := by
  cases ty with
  | object C =>
    obtain ⟨k1, m1, -, -, -, f1⟩ := h1
    obtain ⟨k2, m2, -, -, -, f2⟩ := h2
    exact Option.some.inj (f1.symm.trans f2)
  | _ =>
    have f1 : s.vm.findClass _ = some c1 := h1
    have f2 : s.vm.findClass _ = some c2 := h2
    exact Option.some.inj (f1.symm.trans f2)
theorem q_newa (h : OKc D c0 K own cc nL rm) {atype : ArrayType} {ty : FieldType} (t0 N' : Nat) {x : Int32} {a0 : vp_A} {n : Nat} (harr : Cond.arrayClass (newarray.typeOf atype) ∈ tbl) (hty : newarray.typeOf atype = ty) (ht : (TY c0)[t0]? = some (c0 t0, ty)) (ha : ∀ cA : ClassId, vp_cell cA a0 = arrV cA N' (fun _ => defaultValue ty)) (hx0 : ¬ x < 0) (hN : x.toNatClampNeg = N') (hbytes : N' * componentBytes ty ≤ 536870912) (hce : ce + 1 ≤ rm.cells) (hsl : sl + N' ≤ rm.slots) (hd : decode cc pc = .ok (.newarray atype, 2)) (hn : pc + 2 = n)
    (ws' : Nat → va_W) (hws : ∀ q : Nat, ws ++ [(q, .inl (c0 t0, a0))] = ws' q) {ce' sl' : Nat} (hc1 : ce + 1 = ce') (hs1 : sl + N' = sl') (kk : ∀ q : Nat, WA l D K nL n lv (.ref q :: st) (ws' q) ce' sl') : WA l D K nL pc lv (.int x :: st) ws ce sl := by
  subst hn
  obtain ⟨p, e, R, s, m, args, below, meth, c, A, Q⟩ := K
  obtain ⟨hx, hb, hml, hown, hts, hR, hK, hNW, hA, hgood, hAO⟩ := h
  intro ls H locs hl hP hD hS
  subst hR
  refine va_newa hx hb (hts _ harr) hty hK hP hD hS hA ha hx0 hN hbytes hce hsl hd (fun q cA H1 hK1 hP1 hD1 hS1 => ?_)
  have e1 : cA = c0 t0 := one_cls (hK1.2 (TY c0).length (cA, ty) (by rw [List.getElem?_append_right (Nat.le_refl _)]; simp)).2 (hK.2 t0 _ ht).2
  subst e1 hc1 hs1
  exact kk q ls H1 locs hl (hws q ▸ hP1) (hws q ▸ hD1) hS1
theorem q_newq (h : OKc D c0 K own cc nL rm) {C : String} {i : Nat} (t0 N' : Nat) {x : Int32} {n : Nat} (hw : Cond.classLink own i C ∈ tbl) (hov : ∀ U, AO U → va_AO C U) (ht : (TY c0)[t0]? = some (c0 t0, .object C)) (hx0 : ¬ x < 0) (hN : x.toNatClampNeg = N') (hbytes : N' * 4 ≤ 536870912) (hce : ce + 1 ≤ rm.cells) (hsl : sl + N' ≤ rm.slots) (hd : decode cc pc = .ok (.anewarray i, 3)) (hn : pc + 3 = n)
    (ws' : Nat → va_W) (hws : ∀ q : Nat, ws ++ [(q, .inl (c0 t0, N', .inr (.inr (.inr (.inr (fun _ => none))))))] = ws' q) {ce' sl' : Nat} (hc1 : ce + 1 = ce') (hs1 : sl + N' = sl') (kk : ∀ q : Nat, WA l D K nL n lv (.ref q :: st) (ws' q) ce' sl') : WA l D K nL pc lv (.int x :: st) ws ce sl := by
  subst hn
  obtain ⟨p, e, R, s, m, args, below, meth, c, A, Q⟩ := K
  obtain ⟨hx, hb, hml, hown, hts, hR, hK, hNW, hA, hgood, hAO⟩ := h
  intro ls H locs hl hP hD hS
  subst hR
  refine va_newq hx hb hown (hts _ hw) (hov s hAO) hK hP hD hS hA hx0 hN hbytes hce hsl hd (fun q cA H1 hK1 hP1 hD1 hS1 => ?_)
  have e1 : cA = c0 t0 := one_cls (hK1.2 (TY c0).length (cA, .object C) (by rw [List.getElem?_append_right (Nat.le_refl _)]; simp)).2 (hK.2 t0 _ ht).2
  subst e1 hc1 hs1
  exact kk q ls H1 locs hl (hws q ▸ hP1) (hws q ▸ hD1) hS1
theorem q_new (h : OKc D c0 K own cc nL rm) {ci : Nat} {C : String} {T : u_T} {N : Nat} {ty0 : Nat → FieldType} (F : CF ci C T N ty0) {i : Nat} (fs : List Value) {n : Nat} (hw : Cond.classLink own i C ∈ tbl) (hins : Cond.instantiable C N ∈ tbl) (hini : Cond.initialized C ∈ tbl) (hfs : fs.length = N) (hdf : ∀ j, j < N → defaultValue (ty0 j) = vp_V fs j) (hce : ce + 1 ≤ rm.cells) (hsl : sl + N ≤ rm.slots) (hd : decode cc pc = .ok (.new i, 3)) (hn : pc + 3 = n)
    (ws' : Nat → va_W) (hws : ∀ q : Nat, ws ++ [(q, .inr (ci, fs))] = ws' q) {ce' sl' : Nat} (hc1 : ce + 1 = ce') (hs1 : sl + N = sl') (kk : ∀ q : Nat, WA l D K nL n lv (.ref q :: st) (ws' q) ce' sl') : WA l D K nL pc lv st ws ce sl := by
  subst hn
  obtain ⟨p, e, R, s, m, args, below, meth, c, A, Q⟩ := K
  obtain ⟨hx, hb, hml, hown, hts, hR, hK, hNW, hA, hgood, hAO⟩ := h
  intro ls H locs hl hP hD hS
  subst hR
  exact va_new hx hb hts F.2.1 ty0 F.2.2.1 hown (hts _ hw) (hts _ hins) (hts _ hini) hK hP hD hS hA F.1 hdf hce hsl hd (fun q H1 hP1 hD1 hS1 => by subst hc1 hs1; exact kk q ls H1 locs hl (hws q ▸ hP1) (hws q ▸ hD1) hS1)
theorem q_perm (is : List Nat) (ws' : va_W) (hn : va_nd is = true) (hs : is.map (fun i => ws[i]?) = ws'.map some) (kk : WA l D K nL pc lv st ws' ce sl) : WA l D K nL pc lv st ws ce sl := by
  obtain ⟨p, e, R, s, m, args, below, meth, c, A, Q⟩ := K
  intro ls H locs hl hP hD hS
  exact kk ls H locs hl (sub_P hP is hs) (hD.sub is hn hs) hS
theorem q_weq (ws' : va_W) (hws : ws = ws') (kk : WA l D K nL pc lv st ws' ce sl) : WA l D K nL pc lv st ws ce sl := hws ▸ kk
theorem q_ast (h : OKc D c0 K own cc nL rm) {a m0 v ci : Nat} {f : Nat → Option Nat} {i : Int32} {r : vw_C} {vs : List Value} (q0 t0 qk : Nat) (ws' : va_W) {n : Nat} (he : ws[q0]? = some (a, .inl (c0 t0, m0, .inr (.inr (.inr (.inr f)))))) (ht : (TY c0)[t0]? = some (c0 t0, .object r.1)) (hv : ws[qk]? = some (v, .inr (ci, vs))) (hc : vwCl[ci]? = some r) (hi : vp_in i m0) (hws : ws.set q0 (a, .inl (c0 t0, m0, .inr (.inr (.inr (.inr (va_up f i.toNatClampNeg (some v))))))) = ws') (hd : decode cc pc = .ok (.aastore, 1)) (hn : pc + 1 = n) (kk : WA l D K nL n lv st ws' ce sl) : WA l D K nL pc lv (.ref v :: .int i :: .ref a :: st) ws ce sl := by
  subst hn
  obtain ⟨p, e, R, s, m, args, below, meth, c, A, Q⟩ := K
  obtain ⟨hx, hb, hml, hown, hts, hR, hK, hNW, hA, hgood, hAO⟩ := h
  intro ls H locs hl hP hD hS
  exact va_astq hx hb hK hP hD hS q0 t0 qk ci he ht hv hc hi hd (fun H1 locs1 hP hD hS => kk ls H1 locs1 hl (hws ▸ hP) (hws ▸ hD) hS)
/-- a constructor's contract: its own cell, and cells that come -/
def CtN (l : Launch) (D : va_G) (c0 : Nat → ClassId) (y : MethodName) (cc : ByteArray) (nL : Nat) (rm : Room) (h0 : Nat) (e0 : va_E) (mc ms : Nat) (wo : (Nat → Nat) → va_W) : Prop :=
  ∀ sz : Nat, Met l y (.code y cc nL none :: tbl) rm (fun v U => v = ([.ref h0] : List Value).toArray ∧ U.heap.size = sz ∧ va_P D vwCl [(h0, e0)] U.heap ∧ va_K D vwCl (TY c0) U ∧ NW U ∧ AO U) (fun _ st oc t => oc = .returned none ∧ (∃ ad : Nat → Nat, va_P D vwCl (wo ad) t.heap ∧ va_D (va_A [(h0, e0)] sz) (wo ad)) ∧ va_F (va_A [(h0, e0)] sz) st t) mc ms (va_A [(h0, e0)] sz)
theorem CtN.mk {y : MethodName} {h0 mc ms : Nat} {e0 : va_E} {wo : (Nat → Nat) → va_W} (ho : y.cls = own) (hy : plainName own = true) (hyn : y.name = "<init>") (hav : 1 ≤ nL)
    (body : ∀ K : KT, OKc D c0 K own cc nL rm → isInit K → (∀ (pc : Nat) (lv : List (Nat × Value)) (ad : Nat → Nat) (ws : va_W), ws = wo ad → decode cc pc = .ok (.return_, 1) → WA l D K nL pc lv [] ws mc ms) → WA l D K nL 0 [(0, .ref h0)] [] [(h0, e0)] 0 0) : CtN l D c0 y cc nL rm h0 e0 mc ms wo := by
  intro sz
  subst ho
  refine Met.ofW (cc := cc) (maxL := nL) (ret := none) hy rfl ?_
  intro p e s m args below meth c s₁ B hml hv
  obtain ⟨rfl, hsz, hP, hK, hNW, hAO⟩ := hv
  subst hsz
  have hts := atoms_spec (ws := .code y cc nL none :: tbl) B.pre
  have hl := lv_entry ([.ref h0] : List Value) (n := nL) hav
  rw [lg_entry_eq]
  have hlocks := B.notSynchronized
  have hD0 : va_D (va_A [(h0, e0)] s.heap.size) [(h0, e0)] := by
    refine ⟨fun i j p q hi hj _ => ?_, fun k q hk => Or.inl ⟨k, q.2, hk⟩⟩
    have h1 : i < 1 := (List.getElem?_eq_some_iff.mp hi).1
    have h2 : j < 1 := (List.getElem?_eq_some_iff.mp hj).1
    omega
  refine body (p, e, rm, s, m, _, below, meth, c, va_A [(h0, e0)] s.heap.size, _) ⟨B.exec, B.bytes, hml, findClass_of_methodNamed B.named, fun w hw => hts w (List.mem_cons_of_mem _ hw), rfl, hK, hNW, fun q hq => Or.inr hq, fun w hw hg => hts w (List.mem_cons_of_mem _ (List.mem_filter.mpr ⟨hw, hg⟩)), hAO⟩ ((name_of_methodNamed B.named B.method).1.trans hyn) ?_ _ _ _ hl hP hD0 va_S.rf
  intro pc lv ad ws hws hd ls H locs hl hP hD hS
  subst hws
  exact W.vret B.exec B.bytes B.returns (fun t ht hW => ⟨rfl, ⟨ad, by rw [ht]; exact hP, hD⟩, hS.F ht⟩) hS.2.2 hd hlocks
theorem cat_P {D : va_G} {cl : List vw_C} {A : Nat → Prop} {w0 w1 : va_W} {b : Nat} {e0 : va_E} {H H1 : Heap} (hP : va_P D cl (w0 ++ [(b, e0)]) H) (hD : va_D A (w0 ++ [(b, e0)])) (hk : ∀ q : Nat, q < H.size → ¬ va_A [(b, e0)] H.size q → H1[q]? = H[q]?) (hP1 : va_P D cl w1 H1) (hD1 : va_D (va_A [(b, e0)] H.size) w1) (hAA : ∀ q, va_A [(b, e0)] H.size q → A q) : va_P D cl (w0 ++ w1) H1 ∧ va_D A (w0 ++ w1) := by
  have hw0 : ∀ (k : Nat) (q : Nat × va_E), w0[k]? = some q → q.1 < H.size ∧ q.1 ≠ b := by
    intro k q hq
    have hlt : k < w0.length := (List.getElem?_eq_some_iff.mp hq).1
    have h1 : (w0 ++ [(b, e0)])[k]? = some q := by rw [List.getElem?_append_left hlt]; exact hq
    refine ⟨(hP k q h1).lt, fun e => ?_⟩
    have h2 : (w0 ++ [(b, e0)])[w0.length]? = some (b, e0) := by simp
    have := hD.1 k w0.length q (b, e0) h1 h2 e
    omega
  have hnot : ∀ (k : Nat) (q : Nat × va_E), w0[k]? = some q → ¬ va_A [(b, e0)] H.size q.1 := by
    intro k q hq z
    obtain ⟨h1, h2⟩ := hw0 k q hq
    rcases z with ⟨j, e, hj⟩ | z
    · have h3 : j < 1 := (List.getElem?_eq_some_iff.mp hj).1
      rw [show j = 0 by omega] at hj
      cases hj
      exact h2 rfl
    · omega
  have hP0 : va_P D cl w0 H1 := by
    intro k q hq
    have hlt : k < w0.length := (List.getElem?_eq_some_iff.mp hq).1
    have h1 : (w0 ++ [(b, e0)])[k]? = some q := by rw [List.getElem?_append_left hlt]; exact hq
    exact (hP k q h1).kept (hk q.1 (hw0 k q hq).1 (hnot k q hq))
  have hD0 : va_D A w0 := by
    refine ⟨fun i j p q hi hj e => ?_, fun k q hk => ?_⟩
    · have l1 : i < w0.length := (List.getElem?_eq_some_iff.mp hi).1
      have l2 : j < w0.length := (List.getElem?_eq_some_iff.mp hj).1
      exact hD.1 i j p q (by rw [List.getElem?_append_left l1]; exact hi) (by rw [List.getElem?_append_left l2]; exact hj) e
    · have l1 : k < w0.length := (List.getElem?_eq_some_iff.mp hk).1
      exact hD.2 k q (by rw [List.getElem?_append_left l1]; exact hk)
  exact ⟨hP0.app hP1, hD0.app (hD1.weaken (fun k q hk z => hAA q.1 z)) (fun i j p q hi hj e => hnot i p hi (by rw [e]; exact hD1.2 j q hj))⟩
theorem A_in {A : Nat → Prop} {w0 : va_W} {b : Nat} {e0 : va_E} {H0 H : Heap} (hD : va_D A (w0 ++ [(b, e0)])) (hA : ∀ q, H0.size ≤ q → A q) (hle : H0.size ≤ H.size) : ∀ q, va_A [(b, e0)] H.size q → A q := by
  rintro q (⟨j, e, hj⟩ | z)
  · have h3 : j < 1 := (List.getElem?_eq_some_iff.mp hj).1
    rw [show j = 0 by omega] at hj
    cases hj
    exact hD.2 w0.length (b, e0) (by simp)
  · exact hA q (Nat.le_trans hle z)
theorem q_ctor (h : OKc D c0 K own cc nL rm) {y : MethodName} {cc' : ByteArray} {nL' i b mc ms : Nat} {rm' : Room} {e0 : va_E} {wo : (Nat → Nat) → va_W} (w0 : va_W) (ws' : (Nat → Nat) → va_W) {n ce' sl' : Nat} (M : MI y cc' nL' none 0) (hy : y.name = "<init>") (hin : Cond.instanceMethod y ∈ tbl) (hw : Cond.methodLink own i y ∈ tbl ∨ ∃ host, Cond.methodLinkNest own i y host ∈ nests) (hM : CtN l D c0 y cc' nL' rm' b e0 mc ms wo) (hrm : rm'.cells = mc ∧ rm'.slots = ms ∧ rm'.frames + 1 ≤ rm.frames ∧ 8 + (nL' + 11) + rm'.locals ≤ rm.locals) (hce : ce + mc ≤ rm.cells) (hsl : sl + ms ≤ rm.slots) (hws0 : ws = w0 ++ [(b, e0)]) (hws : ∀ ad, w0 ++ wo ad = ws' ad) (hsum : (st.map fun v => v.category).sum ≤ 8) (hd : decode cc pc = .ok (.invokespecial i, 3)) (hn : pc + 3 = n) (hc1 : ce + mc = ce') (hs1 : sl + ms = sl')
    (kk : ∀ ad : Nat → Nat, WA l D K nL n lv st (ws' ad) ce' sl') : WA l D K nL pc lv (.ref b :: st) ws ce sl := by
  subst hn hws0 hc1 hs1
  obtain ⟨p, e, R, s, m, args, below, meth, c, A, Q⟩ := K
  obtain ⟨hx, hb, hml, hown, hts, hR, hK, hNW, hA, hgood, hAO⟩ := h
  intro ls H locs hl hP hD hS
  subst hR
  have hPb : va_P D vwCl [(b, e0)] H := by
    intro k q hk
    have h3 : k < 1 := (List.getElem?_eq_some_iff.mp hk).1
    rw [show k = 0 by omega] at hk
    exact hP w0.length q (by simpa using hk)
  have run : va_Run p l e R s m args below meth c H locs ce sl mc ms (F0 m pc ls (.ref b :: st)) st ((fun _ st oc t => oc = .returned none ∧ (∃ ad : Nat → Nat, va_P D vwCl (wo ad) t.heap ∧ va_D (va_A [(b, e0)] H.size) (wo ad)) ∧ va_F (va_A [(b, e0)] H.size) st t) ([.ref b] : List Value).toArray) (va_A [(b, e0)] H.size) := by
    have hpre : PreS s H (fun v U => v = ([.ref b] : List Value).toArray ∧ U.heap.size = H.size ∧ va_P D vwCl [(b, e0)] U.heap ∧ va_K D vwCl (TY c0) U ∧ NW U ∧ AO U) (.ref b :: []) := ⟨fun a U g mk q => ⟨q.1, q.2.1, q.2.2.1, va_K.moved (u := U) (U := U.calling g mk a) (Vm.Alike.refl U.vm) q.2.2.2.1, q.2.2.2.2.1.calling g mk a, AO.moved (Vm.Alike.refl U.vm) q.2.2.2.2.2⟩, fun U hU hW => ⟨rfl, by rw [hU], by rw [hU]; exact hPb, va_K.moved hW.alike hK, hNW.warm hW, AO.moved hW.alike hAO⟩⟩
    rcases hw with hw | ⟨host, hw⟩
    · exact va_runI (As := []) (rest := st) ⟨hx, hb, hml, hown, hts⟩ (hM H.size) ⟨callB_of 0 hts (tbl_in M.1) rfl hrm.1 hrm.2.1 (hts _ M.2.1) (hts _ hw) M.2.2 hrm.2.2, hy, hts _ hin⟩ hpre rfl rfl hl.1 rfl (lv_room hsum) hd ⟨hce, hsl⟩
    · exact va_runIN (As := []) (rest := st) ⟨hx, hb, hml, hown, hts⟩ (hM H.size) ⟨va_cnB 0 hts (tbl_in M.1) rfl hrm.1 hrm.2.1 (hNW _ hw) (hts _ M.2.1) M.2.2 hrm.2.2, hy, hts _ hin⟩ hpre rfl rfl hl.1 rfl (lv_room hsum) hd ⟨hce, hsl⟩
  have hAA := A_in hD hA hS.1
  intro T hT X
  obtain ⟨v, st₀, t, T', L, h0, X', hL, e1, e2, ⟨hv, ⟨ad, hP1, hD1⟩, hz, hk⟩, step⟩ := run T hT X
  cases hv
  rw [h0] at hz hk
  obtain ⟨hP2, hD2⟩ := cat_P (H1 := T'.heap) hP hD (fun q h1 h2 => by rw [e1]; exact hk q h1 h2) (by rw [e1]; exact hP1) hD1 hAA
  obtain ⟨t2, a1, b1⟩ := kk ad ls T'.heap (locs ++ L) hl (hws ad ▸ hP2) (hws ad ▸ hD2)
    ⟨Nat.le_trans hS.1 (by rw [e1]; exact hz), fun q h1 h2 => by rw [e1, hk q (Nat.lt_of_lt_of_le h1 hS.1) (fun z => h2 (hAA q z))]; exact hS.2.1 q h1 h2, fun q hq => by
      rcases List.mem_append.mp hq with h | h
      · exact hS.2.2 q h
      · exact hAA _ (hL q h)⟩ T' rfl X'
  exact ⟨t2, step t2 a1, b1⟩
theorem m_aci : Cond.arrayClass .int ∈ tbl := by decide +kernel
theorem rf3_if (r : Nat → Nat) : (fun i => if i < 3 then some (r i) else none) = rf3 (r 0) (r 1) (r 2) := by
  funext k
  match k with
  | 0 => rfl
  | 1 => rfl
  | 2 => rfl
  | k + 3 => simp [rf3]
theorem mna_w (r : Nat → Nat) (f : Nat → va_E) (E : va_E) : va_pl ([] ++ (List.range 3).map r) (vr_up f ((List.range 3).map r) E) = [(r 0, E), (r 1, E), (r 2, E)] := by
  show [(r 0, vr_up f [r 0, r 1, r 2] E (r 0)), (r 1, vr_up f [r 0, r 1, r 2] E (r 1)), (r 2, vr_up f [r 0, r 1, r 2] E (r 2))] = _
  rw [vr_up_in (by simp), vr_up_in (by simp), vr_up_in (by simp)]
theorem q_mna3 (h : OKc D c0 K own cc nL rm) {i : Nat} {n : Nat} (hw : Cond.classLink own i "[[I" ∈ tbl) (hce : ce + (1 + 3) ≤ rm.cells) (hsl : sl + (3 + 3 * 10) ≤ rm.slots) (hd : decode cc pc = .ok (.multianewarray i 2, 4)) (hn : pc + 4 = n) (ws' : Nat → Nat → Nat → Nat → va_W) (hws : ∀ q r0 r1 r2 : Nat, ws ++ [(q, .inl (c0 5, 3, .inr (.inr (.inr (.inr (rf3 r0 r1 r2)))))), (r0, .inl (c0 0, 10, .inl (fun _ => 0))), (r1, .inl (c0 0, 10, .inl (fun _ => 0))), (r2, .inl (c0 0, 10, .inl (fun _ => 0)))] = ws' q r0 r1 r2) {ce' sl' : Nat} (hc1 : ce + 4 = ce') (hs1 : sl + 33 = sl')
    (kk : ∀ q r0 r1 r2 : Nat, WA l D K nL n lv (.ref q :: st) (ws' q r0 r1 r2) ce' sl') : WA l D K nL pc lv (.int (10 : Int32) :: .int (3 : Int32) :: st) ws ce sl := by
  subst hn
  obtain ⟨p, e, R, s, m, args, below, meth, c, A, Q⟩ := K
  obtain ⟨hx, hb, hml, hown, hts, hR, hK, hNW, hA, hgood, hAO⟩ := h
  intro ls H locs hl hP hD hS
  subst hR
  have e0 : ws ++ va_pl [] (fun _ => (.inr (0, []) : va_E)) = ws := List.append_nil ws
  refine va_mna (X := ws) (L := []) (f := fun _ => (.inr (0, []) : va_E)) (ty := .int) (cy := c0 0) (N' := 3) (K' := 10) (z := (10, .inl (fun _ => 0))) hx hb hown (hts _ hw) hAO.2.2 (hts _ m_aci) ((hK.2 0 _ rfl).2) hK (e0.symm ▸ hP) (e0.symm ▸ hD) hS hA (by decide) (by decide) (by decide) (by decide) (by decide) (by decide) (by decide) rfl rfl hce hsl (fun c => by show ({ cls := c, slots := Array.replicate 10 (.int 0), vm := .none } : Cell) = _; rw [arrV_new]; rfl) hd (fun q r cA H1 hinj hnot hK1 hP1 hD1 hS1 => ?_)
  have e1 : cA = c0 5 := one_cls (hK1.2 (TY c0).length (cA, .array .int) (by rw [List.getElem?_append_right (Nat.le_refl _)]; simp)).2 (hK.2 5 _ rfl).2
  subst e1 hc1 hs1
  rw [mna_w, rf3_if, List.append_assoc] at hP1 hD1
  exact kk q (r 0) (r 1) (r 2) ls H1 locs hl (hws q (r 0) (r 1) (r 2) ▸ hP1) (hws q (r 0) (r 1) (r 2) ▸ hD1) hS1
end QQ

/-! ===== the setting: a bundle of the machine's names, worlds in one form, contracts in one form ===== -/
abbrev KT : Type := Program × Env × Room × State × MethodId × Array Value × List Frame × Method × Code × (Nat → Prop) × (State → Prop)
abbrev TY (c : Nat → ClassId) : List (ClassId × FieldType) := [(c 0, .int), (c 1, .long), (c 2, .boolean), (c 3, .object "ShoesHall$Text"), (c 4, .object "ShoesHall$Sheet"), (c 5, .array .int)]
abbrev rmF (f k : Nat) : Room := { frames := f, cells := 0, slots := 0, locals := k }
def wA (ws : va_W) : Nat → Prop := fun q => ∃ (k : Nat) (e : va_E), ws[k]? = some (q, e)
def isNest : Cond → Bool
  | .methodLinkNest _ _ _ _ => true
  | _ => false
def nests : List Cond := tables_1.filter isNest
def NW (U : State) : Prop := ∀ w ∈ nests, va_Nw w U
theorem NW.warm {s U : State} (h : NW s) (hW : s.WarmedH U.vm) : NW U := by
  intro w hw
  have h1 := h w hw
  have h2 := (List.mem_filter.mp hw).2
  cases w <;> first | exact va_Nw.warmM hW h1 | cases h2
theorem NW.calling {U : State} (h : NW U) (g : JFrame) (mk : MethodId) (a : Array Value) : NW (U.calling g mk a) := by
  intro w hw
  have h1 := h w hw
  have h2 := (List.mem_filter.mp hw).2
  cases w <;> first | exact va_Nw.same rfl rfl h1 | cases h2
def Qz (D : va_G) (A : Nat → Prop) (rq : Option Value) (wo : va_W) : Array Value → State → Outcome → State → Prop := fun _ st oc t => oc = .returned rq ∧ va_P D vwCl wo t.heap ∧ va_F A st t
def WW (l : Launch) (D : va_G) (K : KT) (nL pc : Nat) (lv : List (Nat × Value)) (st : List Value) (ws : va_W) : Prop :=
  match K with
  | (p, e, R, s, m, args, below, meth, c, A, Q) => ∀ (ls : Array Slot) (H : Heap) (locs : List Loc), lv_has ls nL lv → va_P D vwCl ws H → va_D A ws → va_S A s.heap H locs → W p l e R s m args below meth c H locs 0 0 Q (F0 m pc ls st)
def OKm (D : va_G) (c0 : Nat → ClassId) (K : KT) (own : String) (cc : ByteArray) (nL : Nat) (ret : Option FieldType) (rm : Room) (rq : Option Value) (wo : va_W) : Prop :=
  match K with
  | (p, e, R, s, m, args, below, meth, c, A, Q) => p.tables.exec = Jvm.exec ∧ c.code = cc ∧ c.maxLocals = nL ∧ s.vm.findClass own = some m.cls ∧ (∀ w ∈ tbl, w.before args s = true) ∧ R = rm ∧ va_K D vwCl (TY c0) s ∧ NW s ∧ meth.locks = false ∧ meth.sig.returnType = ret ∧ Q = MQ below (Qz D A rq wo) args s 0 0 A
def Pz (D : va_G) (c0 : Nat → ClassId) (av : List Value) (wi : va_W) : Array Value → State → Prop := fun v U => v = av.toArray ∧ va_P D vwCl wi U.heap ∧ va_K D vwCl (TY c0) U ∧ NW U ∧ va_D (fun _ => True) wi
def Ct (l : Launch) (D : va_G) (c0 : Nat → ClassId) (y : MethodName) (cc : ByteArray) (nL : Nat) (ret : Option FieldType) (rm : Room) (av : List Value) (wi : va_W) (rq : Option Value) (wo : va_W) : Prop :=
  Met l y (.code y cc nL ret :: tbl) rm (Pz D c0 av wi) (Qz D (wA wi) rq wo) 0 0 (wA wi)
def CF (ci : Nat) (C : String) (T : u_T) (N : Nat) (ty0 : Nat → FieldType) : Prop := vwCl[ci]? = some (C, T, N) ∧ (∀ w ∈ u_ws C T N, w ∈ tbl) ∧ (∀ k, k < N → parseFieldDescriptor (T k).2.2.1 = some (ty0 k)) ∧ (∀ a, a < N → ∀ b, b < N → a ≠ b → (T a).2.1 ≠ (T b).2.1)
theorem cf0 : CF 0 RX0 TX0 10 tyX0 := ⟨rfl, inX0, tyX0_ok, nmX0⟩
theorem cf1 : CF 1 RX1 TX1 4 tyX1 := ⟨rfl, inX1, tyX1_ok, nmX1⟩
theorem cf2 : CF 2 RX2 TX2 8 tyX2 := ⟨rfl, inX2, tyX2_ok, nmX2⟩
theorem cf3 : CF 3 RX3 TX3 4 tyX3 := ⟨rfl, inX3, tyX3_ok, nmX3⟩
theorem cf4 : CF 4 RX4 TX4 5 tyX4 := ⟨rfl, inX4, tyX4_ok, nmX4⟩
theorem cf5 : CF 5 RX5 TX5 4 tyX5 := ⟨rfl, inX5, tyX5_ok, nmX5⟩
theorem cf6 : CF 6 RX6 TX6 9 tyX6 := ⟨rfl, inX6, tyX6_ok, nmX6⟩
theorem cf7 : CF 7 RX7 TX7 37 tyX7 := ⟨rfl, inX7, tyX7_ok, nmX7⟩
theorem tbl_good : tbl.all goodWord = true := List.all_eq_true.mpr (fun w h => (List.mem_filter.mp h).2)
theorem tbl_in {y : MethodName} {cc : ByteArray} {nL : Nat} {ret : Option FieldType} (h : Cond.code y cc nL ret ∈ tbl) : GoodIn tbl (.code y cc nL ret :: tbl) := by
  intro w hw
  have h1 : w ∈ tbl := by
    rcases List.mem_cons.mp hw with e | e
    · rw [e]; exact h
    · exact e
  exact ⟨h1, good_of_word (List.all_eq_true.mp tbl_good w h1)⟩
/-- an index is looked at -/
def chk (i : Int32) (n : Nat) : Bool := decide (¬ i < 0) && decide (i.toNatClampNeg < n)
theorem chk_in {i : Int32} {n : Nat} (h : chk i n = true) : vp_in i n := by
  simp only [chk, Bool.and_eq_true, decide_eq_true_eq] at h
  intro q
  rcases q with q | q
  · exact h.1 q
  · omega
theorem chk_nI {k n : Nat} (h : k < n) (hn : n < 2 ^ 31) : chk (nI k) n = true := by
  simp only [chk, Bool.and_eq_true, decide_eq_true_eq]
  exact ⟨nI_pos (by omega), by rw [nI_clamp (by omega)]; exact h⟩
def nm {α β : Type} (e : α) (g : α → Option β) : Option β := g e
def lp {σ R : Type} (body : (σ → Option R) → σ → Option R) : Nat → σ → Option R
  | 0, _ => none
  | n + 1, s => body (lp body n) s
theorem lp_0 {σ R : Type} (body : (σ → Option R) → σ → Option R) (s : σ) : lp body 0 s = none := rfl
theorem lp_s {σ R : Type} (body : (σ → Option R) → σ → Option R) (n : Nat) (s : σ) : lp body (n + 1) s = body (lp body n) s := rfl
theorem lp_ind {σ R : Type} {body : (σ → Option R) → σ → Option R} {P : σ → Prop} {r : R} (hs : ∀ k : σ → Option R, (∀ s, k s = some r → P s) → ∀ s, body k s = some r → P s) : ∀ (n : Nat) (s : σ), lp body n s = some r → P s
  | 0, _, h => by cases h
  | n + 1, s, h => hs (lp body n) (lp_ind hs n) s h
theorem h_pos {p : Prop} {i : Decidable p} {α : Type} {a b x : α} (h : p) (e : (@ite α p i a b) = x) : a = x := by rw [if_pos h] at e; exact e
theorem h_neg {p : Prop} {i : Decidable p} {α : Type} {a b x : α} (h : ¬ p) (e : (@ite α p i a b) = x) : b = x := by rw [if_neg h] at e; exact e
theorem h_chk {i : Int32} {n : Nat} {α : Type} {a : Option α} {x : α} (e : (if chk i n = true then a else none) = some x) : vp_in i n ∧ a = some x := by
  by_cases h : chk i n = true
  · rw [if_pos h] at e; exact ⟨chk_in h, e⟩
  · rw [if_neg h] at e; cases e
theorem h_ok {p : Prop} {i : Decidable p} {α : Type} {a : Option α} {x : α} (e : (@ite (Option α) p i a none) = some x) : p ∧ a = some x := by
  by_cases h : p
  · rw [if_pos h] at e; exact ⟨h, e⟩
  · rw [if_neg h] at e; cases e
theorem h_bind {α β : Type} {o : Option α} {g : α → Option β} {x : β} (e : o.bind g = some x) : ∃ u, o = some u ∧ g u = some x := by
  cases o with
  | none => cases e
  | some u => exact ⟨u, rfl, e⟩
/-- the locals behind a store -/
def lins : List (Nat × Value) → Nat → Value → List (Nat × Value)
  | [], i, v => [(i, v)]
  | (j, w) :: t, i, v => if j < i then (j, w) :: lins t i v else (i, v) :: (j, w) :: t
theorem lins_mem : ∀ (l : List (Nat × Value)) (i : Nat) (v : Value) (q : Nat × Value), q ∈ lins l i v → q ∈ (i, v) :: l
  | [], i, v, q, h => h
  | (j, w) :: t, i, v, q, h => by
    unfold lins at h
    by_cases c : j < i
    · rw [if_pos c] at h
      rcases List.mem_cons.mp h with e | e
      · rw [e]; exact List.mem_cons_of_mem _ List.mem_cons_self
      · rcases List.mem_cons.mp (lins_mem t i v q e) with e | e
        · rw [e]; exact List.mem_cons_self
        · exact List.mem_cons_of_mem _ (List.mem_cons_of_mem _ e)
    · rw [if_neg c] at h
      exact h
def lset1 (lv : List (Nat × Value)) (i : Nat) (v : Value) : List (Nat × Value) := lins (lv.filter (fun q => !(q.1 == i) && !(q.1 + 1 == i && q.2.category == 2))) i v
def lset2 (lv : List (Nat × Value)) (i : Nat) (v : Value) : List (Nat × Value) := lins (lv.filter (fun q => !(q.1 == i) && (!(q.1 == i + 1) && !(q.1 + 1 == i && q.2.category == 2)))) i v
theorem lv_lins {ls : Array Slot} {nL : Nat} {l : List (Nat × Value)} {i : Nat} {v : Value} {lv' : List (Nat × Value)} (h : lv_has ls nL ((i, v) :: l)) (e : lins l i v = lv') : lv_has ls nL lv' := by
  refine ⟨h.1, h.2.1, fun q hq => h.2.2 q (lins_mem l i v q ?_)⟩
  rw [e]; exact hq
/-- several places of a world anew -/
def setAll : va_W → List Nat → va_W → va_W
  | ws, i :: is, e :: es => setAll (ws.set i e) is es
  | ws, _, _ => ws
theorem setAll_get {k : Nat} {q : Nat × va_E} : ∀ (is : List Nat) (es ws : va_W), is.length = es.length → (setAll ws is es)[k]? = some q → (∃ j : Nat, is[j]? = some k ∧ es[j]? = some q) ∨ (k ∉ is ∧ ws[k]? = some q)
  | [], [], ws, _, h => Or.inr ⟨List.not_mem_nil, h⟩
  | [], _ :: _, _, h, _ => by cases h
  | _ :: _, [], _, h, _ => by cases h
  | i :: is, e :: es, ws, hl, h => by
    have h : (setAll (ws.set i e) is es)[k]? = some q := h
    rcases setAll_get is es (ws.set i e) (by simpa using hl) h with ⟨j, a, b⟩ | ⟨a, b⟩
    · exact Or.inl ⟨j + 1, by simpa using a, by simpa using b⟩
    · by_cases c : i = k
      · subst c
        rw [List.getElem?_set] at b
        simp only [if_true] at b
        by_cases d : i < ws.length
        · rw [if_pos d] at b
          exact Or.inl ⟨0, by simp, by simpa using b⟩
        · rw [if_neg d] at b; cases b
      · rw [List.getElem?_set_ne c] at b
        refine Or.inr ⟨fun z => ?_, b⟩
        rcases List.mem_cons.mp z with z | z
        · exact c z.symm
        · exact a z
theorem va_D_fst {A : Nat → Prop} {ws ws' : va_W} (h : va_D A ws) (e : ws'.map Prod.fst = ws.map Prod.fst) : va_D A ws' := by
  have key : ∀ (i : Nat) (p : Nat × va_E), ws'[i]? = some p → ∃ p0, ws[i]? = some p0 ∧ p0.1 = p.1 := by
    intro i p hp
    have h1 : (ws'.map Prod.fst)[i]? = some p.1 := by rw [List.getElem?_map, hp]; rfl
    rw [e, List.getElem?_map] at h1
    cases hw : ws[i]? with
    | none => rw [hw] at h1; cases h1
    | some p0 => rw [hw] at h1; exact ⟨p0, rfl, by simpa using h1⟩
  refine ⟨fun i j p q hi hj hpq => ?_, fun k q hk => ?_⟩
  · obtain ⟨p0, a0, b0⟩ := key i p hi
    obtain ⟨q0, a1, b1⟩ := key j q hj
    exact h.1 i j p0 q0 a0 a1 (by rw [b0, b1]; exact hpq)
  · obtain ⟨p0, a0, b0⟩ := key k q hk
    rw [← b0]; exact h.2 k p0 a0
theorem setAll_P {D : va_G} {cl : List vw_C} {A : Nat → Prop} {ws wc wc' : va_W} {H H1 : Heap} (hP : va_P D cl ws H) (hD : va_D A ws) (is : List Nat) (hC : is.map (fun i => ws[i]?) = wc.map some) (hl : is.length = wc'.length) (hk : ∀ q : Nat, q < H.size → ¬ wA wc q → H1[q]? = H[q]?) (hP1 : va_P D cl wc' H1) : va_P D cl (setAll ws is wc') H1 := by
  intro k q hq
  rcases setAll_get is wc' ws hl hq with ⟨j, a, b⟩ | ⟨a, b⟩
  · exact hP1 j q b
  · have h0 := hP k q b
    refine h0.kept (hk q.1 h0.lt ?_)
    rintro ⟨k', e, he⟩
    have h1 : (is.map (fun i => ws[i]?))[k']? = some (some (q.1, e)) := by rw [hC, List.getElem?_map, he]; rfl
    rw [List.getElem?_map] at h1
    cases hi : is[k']? with
    | none => rw [hi] at h1; cases h1
    | some i =>
      rw [hi] at h1
      have h2 : ws[i]? = some (q.1, e) := by simpa using h1
      have h3 := hD.1 i k (q.1, e) q h2 b rfl
      subst h3
      exact a (List.mem_of_getElem? hi)
theorem sub_D {A B : Nat → Prop} {ws wc : va_W} (hD : va_D A ws) (is : List Nat) (hn : va_nd is = true) (hC : is.map (fun i => ws[i]?) = wc.map some) (hB : ∀ q, B q) : va_D B wc := (hD.sub is hn hC).weaken (fun _ q _ _ => hB q.1)
theorem sub_A {A : Nat → Prop} {ws wc : va_W} (hD : va_D A ws) (is : List Nat) (hC : is.map (fun i => ws[i]?) = wc.map some) : ∀ q, wA wc q → A q := by
  rintro q ⟨k', e, he⟩
  have h1 : (is.map (fun i => ws[i]?))[k']? = some (some (q, e)) := by rw [hC, List.getElem?_map, he]; rfl
  rw [List.getElem?_map] at h1
  cases hi : is[k']? with
  | none => rw [hi] at h1; cases h1
  | some i =>
    rw [hi] at h1
    have h2 : ws[i]? = some (q, e) := by simpa using h1
    exact hD.2 i _ h2
theorem sub_P {D : va_G} {cl : List vw_C} {ws wc : va_W} {H : Heap} (hP : va_P D cl ws H) (is : List Nat) (hC : is.map (fun i => ws[i]?) = wc.map some) : va_P D cl wc H := by
  intro k' q he
  have h1 : (is.map (fun i => ws[i]?))[k']? = some (some q) := by rw [hC, List.getElem?_map, he]; rfl
  rw [List.getElem?_map] at h1
  cases hi : is[k']? with
  | none => rw [hi] at h1; cases h1
  | some i =>
    rw [hi] at h1
    exact hP i q (by simpa using h1)
theorem m_max1 : Cond.static Lib.Math.max.name ∈ tbl := by decide +kernel
theorem m_max2 : Cond.initialized "java/lang/Math" ∈ tbl := by decide +kernel
theorem m_max3 : Cond.code Lib.Math.max.name Lib.Math.max.code 2 (some .int) ∈ tbl := by decide +kernel
theorem m_min1 : Cond.static Lib.Math.min.name ∈ tbl := by decide +kernel
theorem m_min2 : Cond.initialized "java/lang/Math" ∈ tbl := by decide +kernel
theorem m_min3 : Cond.code Lib.Math.min.name Lib.Math.min.code 2 (some .int) ∈ tbl := by decide +kernel
section RR
variable {l : Launch} {D : va_G} {c0 : Nat → ClassId} {K : KT} {own : String} {cc : ByteArray} {nL : Nat} {ret : Option FieldType} {rm : Room} {rq : Option Value} {wo : va_W} {pc : Nat} {lv : List (Nat × Value)} {st : List Value} {ws : va_W}
theorem r_iadd (h : OKm D c0 K own cc nL ret rm rq wo) {x y : Int32} {n : Nat} (hd : decode cc pc = .ok (.iadd, 1)) (hn : pc + 1 = n) (kk : WW l D K nL n lv (.int (x + y) :: st) ws) : WW l D K nL pc lv (.int y :: .int x :: st) ws := by
  subst hn
  obtain ⟨p, e, R, s, m, args, below, meth, c, A, Q⟩ := K
  obtain ⟨hx, hb, hml, hown, hts, hR, hK, hNW, hlocks, hr, hQ⟩ := h
  intro ls H locs hl hP hD hS
  exact lv_iadd hx hb hd (kk ls H locs hl hP hD hS)
theorem r_isub (h : OKm D c0 K own cc nL ret rm rq wo) {x y : Int32} {n : Nat} (hd : decode cc pc = .ok (.isub, 1)) (hn : pc + 1 = n) (kk : WW l D K nL n lv (.int (x - y) :: st) ws) : WW l D K nL pc lv (.int y :: .int x :: st) ws := by
  subst hn
  obtain ⟨p, e, R, s, m, args, below, meth, c, A, Q⟩ := K
  obtain ⟨hx, hb, hml, hown, hts, hR, hK, hNW, hlocks, hr, hQ⟩ := h
  intro ls H locs hl hP hD hS
  exact lv_isub hx hb hd (kk ls H locs hl hP hD hS)
theorem r_imul (h : OKm D c0 K own cc nL ret rm rq wo) {x y : Int32} {n : Nat} (hd : decode cc pc = .ok (.imul, 1)) (hn : pc + 1 = n) (kk : WW l D K nL n lv (.int (x * y) :: st) ws) : WW l D K nL pc lv (.int y :: .int x :: st) ws := by
  subst hn
  obtain ⟨p, e, R, s, m, args, below, meth, c, A, Q⟩ := K
  obtain ⟨hx, hb, hml, hown, hts, hR, hK, hNW, hlocks, hr, hQ⟩ := h
  intro ls H locs hl hP hD hS
  exact lv_imul hx hb hd (kk ls H locs hl hP hD hS)
theorem r_iand (h : OKm D c0 K own cc nL ret rm rq wo) {x y : Int32} {n : Nat} (hd : decode cc pc = .ok (.iand, 1)) (hn : pc + 1 = n) (kk : WW l D K nL n lv (.int (x &&& y) :: st) ws) : WW l D K nL pc lv (.int y :: .int x :: st) ws := by
  subst hn
  obtain ⟨p, e, R, s, m, args, below, meth, c, A, Q⟩ := K
  obtain ⟨hx, hb, hml, hown, hts, hR, hK, hNW, hlocks, hr, hQ⟩ := h
  intro ls H locs hl hP hD hS
  exact lv_iand hx hb hd (kk ls H locs hl hP hD hS)
theorem r_ior (h : OKm D c0 K own cc nL ret rm rq wo) {x y : Int32} {n : Nat} (hd : decode cc pc = .ok (.ior, 1)) (hn : pc + 1 = n) (kk : WW l D K nL n lv (.int (x ||| y) :: st) ws) : WW l D K nL pc lv (.int y :: .int x :: st) ws := by
  subst hn
  obtain ⟨p, e, R, s, m, args, below, meth, c, A, Q⟩ := K
  obtain ⟨hx, hb, hml, hown, hts, hR, hK, hNW, hlocks, hr, hQ⟩ := h
  intro ls H locs hl hP hD hS
  exact lv_ior hx hb hd (kk ls H locs hl hP hD hS)
theorem r_ixor (h : OKm D c0 K own cc nL ret rm rq wo) {x y : Int32} {n : Nat} (hd : decode cc pc = .ok (.ixor, 1)) (hn : pc + 1 = n) (kk : WW l D K nL n lv (.int (x ^^^ y) :: st) ws) : WW l D K nL pc lv (.int y :: .int x :: st) ws := by
  subst hn
  obtain ⟨p, e, R, s, m, args, below, meth, c, A, Q⟩ := K
  obtain ⟨hx, hb, hml, hown, hts, hR, hK, hNW, hlocks, hr, hQ⟩ := h
  intro ls H locs hl hP hD hS
  exact lv_ixor hx hb hd (kk ls H locs hl hP hD hS)
theorem r_ishl (h : OKm D c0 K own cc nL ret rm rq wo) {x y : Int32} {n : Nat} (hd : decode cc pc = .ok (.ishl, 1)) (hn : pc + 1 = n) (kk : WW l D K nL n lv (.int (x <<< (y &&& 31)) :: st) ws) : WW l D K nL pc lv (.int y :: .int x :: st) ws := by
  subst hn
  obtain ⟨p, e, R, s, m, args, below, meth, c, A, Q⟩ := K
  obtain ⟨hx, hb, hml, hown, hts, hR, hK, hNW, hlocks, hr, hQ⟩ := h
  intro ls H locs hl hP hD hS
  exact lv_ishl hx hb hd (kk ls H locs hl hP hD hS)
theorem r_ishr (h : OKm D c0 K own cc nL ret rm rq wo) {x y : Int32} {n : Nat} (hd : decode cc pc = .ok (.ishr, 1)) (hn : pc + 1 = n) (kk : WW l D K nL n lv (.int (x >>> (y &&& 31)) :: st) ws) : WW l D K nL pc lv (.int y :: .int x :: st) ws := by
  subst hn
  obtain ⟨p, e, R, s, m, args, below, meth, c, A, Q⟩ := K
  obtain ⟨hx, hb, hml, hown, hts, hR, hK, hNW, hlocks, hr, hQ⟩ := h
  intro ls H locs hl hP hD hS
  exact lv_ishr hx hb hd (kk ls H locs hl hP hD hS)
theorem r_iushr (h : OKm D c0 K own cc nL ret rm rq wo) {x y : Int32} {n : Nat} (hd : decode cc pc = .ok (.iushr, 1)) (hn : pc + 1 = n) (kk : WW l D K nL n lv (.int ((x.toUInt32 >>> (y.toUInt32 &&& Int32.toUInt32 31)).toInt32) :: st) ws) : WW l D K nL pc lv (.int y :: .int x :: st) ws := by
  subst hn
  obtain ⟨p, e, R, s, m, args, below, meth, c, A, Q⟩ := K
  obtain ⟨hx, hb, hml, hown, hts, hR, hK, hNW, hlocks, hr, hQ⟩ := h
  intro ls H locs hl hP hD hS
  exact lv_iushr hx hb hd rfl (kk ls H locs hl hP hD hS)
theorem r_idiv (h : OKm D c0 K own cc nL ret rm rq wo) {x y : Int32} {n : Nat} (hd : decode cc pc = .ok (.idiv, 1)) (hne : ¬ y = 0) (hn : pc + 1 = n) (kk : WW l D K nL n lv (.int (x / y) :: st) ws) : WW l D K nL pc lv (.int y :: .int x :: st) ws := by
  subst hn
  obtain ⟨p, e, R, s, m, args, below, meth, c, A, Q⟩ := K
  obtain ⟨hx, hb, hml, hown, hts, hR, hK, hNW, hlocks, hr, hQ⟩ := h
  intro ls H locs hl hP hD hS
  exact lv_idiv hx hb hd hne (kk ls H locs hl hP hD hS)
theorem r_irem (h : OKm D c0 K own cc nL ret rm rq wo) {x y : Int32} {n : Nat} (hd : decode cc pc = .ok (.irem, 1)) (hne : ¬ y = 0) (hn : pc + 1 = n) (kk : WW l D K nL n lv (.int (x - x / y * y) :: st) ws) : WW l D K nL pc lv (.int y :: .int x :: st) ws := by
  subst hn
  obtain ⟨p, e, R, s, m, args, below, meth, c, A, Q⟩ := K
  obtain ⟨hx, hb, hml, hown, hts, hR, hK, hNW, hlocks, hr, hQ⟩ := h
  intro ls H locs hl hP hD hS
  exact lv_irem hx hb hd hne (kk ls H locs hl hP hD hS)
theorem r_ladd (h : OKm D c0 K own cc nL ret rm rq wo) {x y : Int64} {n : Nat} (hd : decode cc pc = .ok (.ladd, 1)) (hn : pc + 1 = n) (kk : WW l D K nL n lv (.long (x + y) :: st) ws) : WW l D K nL pc lv (.long y :: .long x :: st) ws := by
  subst hn
  obtain ⟨p, e, R, s, m, args, below, meth, c, A, Q⟩ := K
  obtain ⟨hx, hb, hml, hown, hts, hR, hK, hNW, hlocks, hr, hQ⟩ := h
  intro ls H locs hl hP hD hS
  exact lv_ladd hx hb hd (kk ls H locs hl hP hD hS)
theorem r_lsub (h : OKm D c0 K own cc nL ret rm rq wo) {x y : Int64} {n : Nat} (hd : decode cc pc = .ok (.lsub, 1)) (hn : pc + 1 = n) (kk : WW l D K nL n lv (.long (x - y) :: st) ws) : WW l D K nL pc lv (.long y :: .long x :: st) ws := by
  subst hn
  obtain ⟨p, e, R, s, m, args, below, meth, c, A, Q⟩ := K
  obtain ⟨hx, hb, hml, hown, hts, hR, hK, hNW, hlocks, hr, hQ⟩ := h
  intro ls H locs hl hP hD hS
  exact lv_lsub hx hb hd (kk ls H locs hl hP hD hS)
theorem r_lmul (h : OKm D c0 K own cc nL ret rm rq wo) {x y : Int64} {n : Nat} (hd : decode cc pc = .ok (.lmul, 1)) (hn : pc + 1 = n) (kk : WW l D K nL n lv (.long (x * y) :: st) ws) : WW l D K nL pc lv (.long y :: .long x :: st) ws := by
  subst hn
  obtain ⟨p, e, R, s, m, args, below, meth, c, A, Q⟩ := K
  obtain ⟨hx, hb, hml, hown, hts, hR, hK, hNW, hlocks, hr, hQ⟩ := h
  intro ls H locs hl hP hD hS
  exact lv_lmul hx hb hd (kk ls H locs hl hP hD hS)
theorem r_ldiv (h : OKm D c0 K own cc nL ret rm rq wo) {x y : Int64} {n : Nat} (hd : decode cc pc = .ok (.ldiv, 1)) (hne : ¬ y = 0) (hn : pc + 1 = n) (kk : WW l D K nL n lv (.long (x / y) :: st) ws) : WW l D K nL pc lv (.long y :: .long x :: st) ws := by
  subst hn
  obtain ⟨p, e, R, s, m, args, below, meth, c, A, Q⟩ := K
  obtain ⟨hx, hb, hml, hown, hts, hR, hK, hNW, hlocks, hr, hQ⟩ := h
  intro ls H locs hl hP hD hS
  exact lv_ldiv hx hb hd hne (kk ls H locs hl hP hD hS)
theorem r_lrem (h : OKm D c0 K own cc nL ret rm rq wo) {x y : Int64} {n : Nat} (hd : decode cc pc = .ok (.lrem, 1)) (hne : ¬ y = 0) (hn : pc + 1 = n) (kk : WW l D K nL n lv (.long (x - x / y * y) :: st) ws) : WW l D K nL pc lv (.long y :: .long x :: st) ws := by
  subst hn
  obtain ⟨p, e, R, s, m, args, below, meth, c, A, Q⟩ := K
  obtain ⟨hx, hb, hml, hown, hts, hR, hK, hNW, hlocks, hr, hQ⟩ := h
  intro ls H locs hl hP hD hS
  exact lv_lrem hx hb hd hne (kk ls H locs hl hP hD hS)
theorem r_lcmp (h : OKm D c0 K own cc nL ret rm rq wo) {x y : Int64} {n : Nat} (hd : decode cc pc = .ok (.lcmp, 1)) (hn : pc + 1 = n) (kk : WW l D K nL n lv (.int (lg_cmp x y) :: st) ws) : WW l D K nL pc lv (.long y :: .long x :: st) ws := by
  subst hn
  obtain ⟨p, e, R, s, m, args, below, meth, c, A, Q⟩ := K
  obtain ⟨hx, hb, hml, hown, hts, hR, hK, hNW, hlocks, hr, hQ⟩ := h
  intro ls H locs hl hP hD hS
  exact W.lcmp hx hb hd (kk ls H locs hl hP hD hS)
theorem r_i2l (h : OKm D c0 K own cc nL ret rm rq wo) {x : Int32} {n : Nat} (hd : decode cc pc = .ok (.i2l, 1)) (hn : pc + 1 = n) (kk : WW l D K nL n lv (.long x.toInt64 :: st) ws) : WW l D K nL pc lv (.int x :: st) ws := by
  subst hn
  obtain ⟨p, e, R, s, m, args, below, meth, c, A, Q⟩ := K
  obtain ⟨hx, hb, hml, hown, hts, hR, hK, hNW, hlocks, hr, hQ⟩ := h
  intro ls H locs hl hP hD hS
  exact lv_i2l hx hb hd rfl (kk ls H locs hl hP hD hS)
theorem r_i2b (h : OKm D c0 K own cc nL ret rm rq wo) {x : Int32} {n : Nat} (hd : decode cc pc = .ok (.i2b, 1)) (hn : pc + 1 = n) (kk : WW l D K nL n lv (.int x.toInt8.toInt32 :: st) ws) : WW l D K nL pc lv (.int x :: st) ws := by
  subst hn
  obtain ⟨p, e, R, s, m, args, below, meth, c, A, Q⟩ := K
  obtain ⟨hx, hb, hml, hown, hts, hR, hK, hNW, hlocks, hr, hQ⟩ := h
  intro ls H locs hl hP hD hS
  exact lv_i2b hx hb hd rfl (kk ls H locs hl hP hD hS)
theorem r_i2s (h : OKm D c0 K own cc nL ret rm rq wo) {x : Int32} {n : Nat} (hd : decode cc pc = .ok (.i2s, 1)) (hn : pc + 1 = n) (kk : WW l D K nL n lv (.int x.toInt16.toInt32 :: st) ws) : WW l D K nL pc lv (.int x :: st) ws := by
  subst hn
  obtain ⟨p, e, R, s, m, args, below, meth, c, A, Q⟩ := K
  obtain ⟨hx, hb, hml, hown, hts, hR, hK, hNW, hlocks, hr, hQ⟩ := h
  intro ls H locs hl hP hD hS
  exact lv_i2s hx hb hd rfl (kk ls H locs hl hP hD hS)
theorem r_iconst (h : OKm D c0 K own cc nL ret rm rq wo) {z : Int} (v : Int32) {n : Nat} (hd : decode cc pc = .ok (.iconst z, 1)) (hv : Int32.ofInt z = v) (hn : pc + 1 = n) (kk : WW l D K nL n lv (.int v :: st) ws) : WW l D K nL pc lv (st) ws := by
  subst hn
  obtain ⟨p, e, R, s, m, args, below, meth, c, A, Q⟩ := K
  obtain ⟨hx, hb, hml, hown, hts, hR, hK, hNW, hlocks, hr, hQ⟩ := h
  intro ls H locs hl hP hD hS
  exact lv_iconst hx hb hd hv (kk ls H locs hl hP hD hS)
theorem r_bipush (h : OKm D c0 K own cc nL ret rm rq wo) {z : Int} (v : Int32) {n : Nat} (hd : decode cc pc = .ok (.bipush z, 2)) (hv : (Int8.ofInt z).toInt32 = v) (hn : pc + 2 = n) (kk : WW l D K nL n lv (.int v :: st) ws) : WW l D K nL pc lv (st) ws := by
  subst hn
  obtain ⟨p, e, R, s, m, args, below, meth, c, A, Q⟩ := K
  obtain ⟨hx, hb, hml, hown, hts, hR, hK, hNW, hlocks, hr, hQ⟩ := h
  intro ls H locs hl hP hD hS
  exact lv_bipush hx hb hd hv (kk ls H locs hl hP hD hS)
theorem r_sipush (h : OKm D c0 K own cc nL ret rm rq wo) {z : Int} (v : Int32) {n : Nat} (hd : decode cc pc = .ok (.sipush z, 3)) (hv : (Int16.ofInt z).toInt32 = v) (hn : pc + 3 = n) (kk : WW l D K nL n lv (.int v :: st) ws) : WW l D K nL pc lv (st) ws := by
  subst hn
  obtain ⟨p, e, R, s, m, args, below, meth, c, A, Q⟩ := K
  obtain ⟨hx, hb, hml, hown, hts, hR, hK, hNW, hlocks, hr, hQ⟩ := h
  intro ls H locs hl hP hD hS
  exact lv_sipush hx hb hd hv (kk ls H locs hl hP hD hS)
theorem r_lconst (h : OKm D c0 K own cc nL ret rm rq wo) {z : Fin 2} (v : Int64) {n : Nat} (hd : decode cc pc = .ok (.lconst z, 1)) (hv : Int64.ofNat (z : Nat) = v) (hn : pc + 1 = n) (kk : WW l D K nL n lv (.long v :: st) ws) : WW l D K nL pc lv (st) ws := by
  subst hn
  obtain ⟨p, e, R, s, m, args, below, meth, c, A, Q⟩ := K
  obtain ⟨hx, hb, hml, hown, hts, hR, hK, hNW, hlocks, hr, hQ⟩ := h
  intro ls H locs hl hP hD hS
  exact lv_lconst hx hb hd hv (kk ls H locs hl hP hD hS)
theorem r_ldc (h : OKm D c0 K own cc nL ret rm rq wo) {i : Nat} {v : Int32} {n : Nat} (hw : Cond.constant own i v ∈ tbl) (hd : decode cc pc = .ok (.ldc i, 2)) (hn : pc + 2 = n) (kk : WW l D K nL n lv (.int v :: st) ws) : WW l D K nL pc lv (st) ws := by
  subst hn
  obtain ⟨p, e, R, s, m, args, below, meth, c, A, Q⟩ := K
  obtain ⟨hx, hb, hml, hown, hts, hR, hK, hNW, hlocks, hr, hQ⟩ := h
  intro ls H locs hl hP hD hS
  exact lv_ldc hx hb hown (hts _ hw) hd (kk ls H locs hl hP hD hS)
theorem r_ldc_w (h : OKm D c0 K own cc nL ret rm rq wo) {i : Nat} {v : Int32} {n : Nat} (hw : Cond.constant own i v ∈ tbl) (hd : decode cc pc = .ok (.ldc_w i, 3)) (hn : pc + 3 = n) (kk : WW l D K nL n lv (.int v :: st) ws) : WW l D K nL pc lv (st) ws := by
  subst hn
  obtain ⟨p, e, R, s, m, args, below, meth, c, A, Q⟩ := K
  obtain ⟨hx, hb, hml, hown, hts, hR, hK, hNW, hlocks, hr, hQ⟩ := h
  intro ls H locs hl hP hD hS
  exact lv_ldcw hx hb hown (hts _ hw) hd (kk ls H locs hl hP hD hS)
theorem r_ldc2_w (h : OKm D c0 K own cc nL ret rm rq wo) {i : Nat} {v : Int64} {n : Nat} (hw : Cond.constantLong own i v ∈ tbl) (hd : decode cc pc = .ok (.ldc2_w i, 3)) (hn : pc + 3 = n) (kk : WW l D K nL n lv (.long v :: st) ws) : WW l D K nL pc lv (st) ws := by
  subst hn
  obtain ⟨p, e, R, s, m, args, below, meth, c, A, Q⟩ := K
  obtain ⟨hx, hb, hml, hown, hts, hR, hK, hNW, hlocks, hr, hQ⟩ := h
  intro ls H locs hl hP hD hS
  exact lv_ldc2 hx hb hown (hts _ hw) hd (kk ls H locs hl hP hD hS)
theorem r_iload_n (h : OKm D c0 K own cc nL ret rm rq wo) {k : Fin 4} {i : Nat} {x : Int32} (j : Nat) {n : Nat} (hd : decode cc pc = .ok (.iload_n k, 1)) (hi : (k : Nat) = i) (hj : lv[j]? = some (i, .int x)) (hn : pc + 1 = n) (kk : WW l D K nL n lv (.int x :: st) ws) : WW l D K nL pc lv (st) ws := by
  subst hn
  obtain ⟨p, e, R, s, m, args, below, meth, c, A, Q⟩ := K
  obtain ⟨hx, hb, hml, hown, hts, hR, hK, hNW, hlocks, hr, hQ⟩ := h
  intro ls H locs hl hP hD hS
  exact lv_iload_n hx hb hd hi (lv_at hl j hj) (kk ls H locs hl hP hD hS)
theorem r_iload (h : OKm D c0 K own cc nL ret rm rq wo) {i : Nat} {x : Int32} (j : Nat) {n : Nat} (hd : decode cc pc = .ok (.iload i, 2)) (hj : lv[j]? = some (i, .int x)) (hn : pc + 2 = n) (kk : WW l D K nL n lv (.int x :: st) ws) : WW l D K nL pc lv (st) ws := by
  subst hn
  obtain ⟨p, e, R, s, m, args, below, meth, c, A, Q⟩ := K
  obtain ⟨hx, hb, hml, hown, hts, hR, hK, hNW, hlocks, hr, hQ⟩ := h
  intro ls H locs hl hP hD hS
  exact lv_iload hx hb hd (lv_at hl j hj) (kk ls H locs hl hP hD hS)
theorem r_lload_n (h : OKm D c0 K own cc nL ret rm rq wo) {k : Fin 4} {i : Nat} {x : Int64} (j : Nat) {n : Nat} (hd : decode cc pc = .ok (.lload_n k, 1)) (hi : (k : Nat) = i) (hj : lv[j]? = some (i, .long x)) (hn : pc + 1 = n) (kk : WW l D K nL n lv (.long x :: st) ws) : WW l D K nL pc lv (st) ws := by
  subst hn
  obtain ⟨p, e, R, s, m, args, below, meth, c, A, Q⟩ := K
  obtain ⟨hx, hb, hml, hown, hts, hR, hK, hNW, hlocks, hr, hQ⟩ := h
  intro ls H locs hl hP hD hS
  exact lv_lload_n hx hb hd hi (lv_at hl j hj) (kk ls H locs hl hP hD hS)
theorem r_lload (h : OKm D c0 K own cc nL ret rm rq wo) {i : Nat} {x : Int64} (j : Nat) {n : Nat} (hd : decode cc pc = .ok (.lload i, 2)) (hj : lv[j]? = some (i, .long x)) (hn : pc + 2 = n) (kk : WW l D K nL n lv (.long x :: st) ws) : WW l D K nL pc lv (st) ws := by
  subst hn
  obtain ⟨p, e, R, s, m, args, below, meth, c, A, Q⟩ := K
  obtain ⟨hx, hb, hml, hown, hts, hR, hK, hNW, hlocks, hr, hQ⟩ := h
  intro ls H locs hl hP hD hS
  exact lv_lload hx hb hd (lv_at hl j hj) (kk ls H locs hl hP hD hS)
theorem r_aload_n (h : OKm D c0 K own cc nL ret rm rq wo) {k : Fin 4} {i : Nat} {x : Nat} (j : Nat) {n : Nat} (hd : decode cc pc = .ok (.aload_n k, 1)) (hi : (k : Nat) = i) (hj : lv[j]? = some (i, .ref x)) (hn : pc + 1 = n) (kk : WW l D K nL n lv (.ref x :: st) ws) : WW l D K nL pc lv (st) ws := by
  subst hn
  obtain ⟨p, e, R, s, m, args, below, meth, c, A, Q⟩ := K
  obtain ⟨hx, hb, hml, hown, hts, hR, hK, hNW, hlocks, hr, hQ⟩ := h
  intro ls H locs hl hP hD hS
  exact lv_aload_n hx hb hd hi (lv_at hl j hj) (kk ls H locs hl hP hD hS)
theorem r_aload (h : OKm D c0 K own cc nL ret rm rq wo) {i : Nat} {x : Nat} (j : Nat) {n : Nat} (hd : decode cc pc = .ok (.aload i, 2)) (hj : lv[j]? = some (i, .ref x)) (hn : pc + 2 = n) (kk : WW l D K nL n lv (.ref x :: st) ws) : WW l D K nL pc lv (st) ws := by
  subst hn
  obtain ⟨p, e, R, s, m, args, below, meth, c, A, Q⟩ := K
  obtain ⟨hx, hb, hml, hown, hts, hR, hK, hNW, hlocks, hr, hQ⟩ := h
  intro ls H locs hl hP hD hS
  exact lv_aload hx hb hd (lv_at hl j hj) (kk ls H locs hl hP hD hS)
theorem r_istore_n (h : OKm D c0 K own cc nL ret rm rq wo) {k : Fin 4} {i : Nat} {x : Int32} (lv' : List (Nat × Value)) {n : Nat} (hd : decode cc pc = .ok (.istore_n k, 1)) (hi : (k : Nat) = i) (hlt : i < nL) (hv : lset1 lv i (.int x) = lv') (hn : pc + 1 = n) (kk : WW l D K nL n lv' (st) ws) : WW l D K nL pc lv (.int x :: st) ws := by
  subst hn
  obtain ⟨p, e, R, s, m, args, below, meth, c, A, Q⟩ := K
  obtain ⟨hx, hb, hml, hown, hts, hR, hK, hNW, hlocks, hr, hQ⟩ := h
  intro ls H locs hl hP hD hS
  exact lv_istore_n hx hb hd hi hl hlt rfl (fun ls hl => kk ls H locs (lv_lins hl hv) hP hD hS)
theorem r_istore (h : OKm D c0 K own cc nL ret rm rq wo)  {i : Nat} {x : Int32} (lv' : List (Nat × Value)) {n : Nat} (hd : decode cc pc = .ok (.istore i, 2)) (hlt : i < nL) (hv : lset1 lv i (.int x) = lv') (hn : pc + 2 = n) (kk : WW l D K nL n lv' (st) ws) : WW l D K nL pc lv (.int x :: st) ws := by
  subst hn
  obtain ⟨p, e, R, s, m, args, below, meth, c, A, Q⟩ := K
  obtain ⟨hx, hb, hml, hown, hts, hR, hK, hNW, hlocks, hr, hQ⟩ := h
  intro ls H locs hl hP hD hS
  exact lv_istore hx hb hd hl hlt rfl (fun ls hl => kk ls H locs (lv_lins hl hv) hP hD hS)
theorem r_lstore_n (h : OKm D c0 K own cc nL ret rm rq wo) {k : Fin 4} {i : Nat} {x : Int64} (lv' : List (Nat × Value)) {n : Nat} (hd : decode cc pc = .ok (.lstore_n k, 1)) (hi : (k : Nat) = i) (hlt : i + 1 < nL) (hv : lset2 lv i (.long x) = lv') (hn : pc + 1 = n) (kk : WW l D K nL n lv' (st) ws) : WW l D K nL pc lv (.long x :: st) ws := by
  subst hn
  obtain ⟨p, e, R, s, m, args, below, meth, c, A, Q⟩ := K
  obtain ⟨hx, hb, hml, hown, hts, hR, hK, hNW, hlocks, hr, hQ⟩ := h
  intro ls H locs hl hP hD hS
  exact lv_lstore_n hx hb hd hi hl hlt rfl (fun ls hl => kk ls H locs (lv_lins hl hv) hP hD hS)
theorem r_lstore (h : OKm D c0 K own cc nL ret rm rq wo)  {i : Nat} {x : Int64} (lv' : List (Nat × Value)) {n : Nat} (hd : decode cc pc = .ok (.lstore i, 2)) (hlt : i + 1 < nL) (hv : lset2 lv i (.long x) = lv') (hn : pc + 2 = n) (kk : WW l D K nL n lv' (st) ws) : WW l D K nL pc lv (.long x :: st) ws := by
  subst hn
  obtain ⟨p, e, R, s, m, args, below, meth, c, A, Q⟩ := K
  obtain ⟨hx, hb, hml, hown, hts, hR, hK, hNW, hlocks, hr, hQ⟩ := h
  intro ls H locs hl hP hD hS
  exact lv_lstore hx hb hd hl hlt rfl (fun ls hl => kk ls H locs (lv_lins hl hv) hP hD hS)
theorem r_astore_n (h : OKm D c0 K own cc nL ret rm rq wo) {k : Fin 4} {i : Nat} {x : Nat} (lv' : List (Nat × Value)) {n : Nat} (hd : decode cc pc = .ok (.astore_n k, 1)) (hi : (k : Nat) = i) (hlt : i < nL) (hv : lset1 lv i (.ref x) = lv') (hn : pc + 1 = n) (kk : WW l D K nL n lv' (st) ws) : WW l D K nL pc lv (.ref x :: st) ws := by
  subst hn
  obtain ⟨p, e, R, s, m, args, below, meth, c, A, Q⟩ := K
  obtain ⟨hx, hb, hml, hown, hts, hR, hK, hNW, hlocks, hr, hQ⟩ := h
  intro ls H locs hl hP hD hS
  exact lv_astore_n hx hb hd hi hl hlt rfl (fun ls hl => kk ls H locs (lv_lins hl hv) hP hD hS)
theorem r_astore (h : OKm D c0 K own cc nL ret rm rq wo)  {i : Nat} {x : Nat} (lv' : List (Nat × Value)) {n : Nat} (hd : decode cc pc = .ok (.astore i, 2)) (hlt : i < nL) (hv : lset1 lv i (.ref x) = lv') (hn : pc + 2 = n) (kk : WW l D K nL n lv' (st) ws) : WW l D K nL pc lv (.ref x :: st) ws := by
  subst hn
  obtain ⟨p, e, R, s, m, args, below, meth, c, A, Q⟩ := K
  obtain ⟨hx, hb, hml, hown, hts, hR, hK, hNW, hlocks, hr, hQ⟩ := h
  intro ls H locs hl hP hD hS
  exact lv_astore hx hb hd hl hlt rfl (fun ls hl => kk ls H locs (lv_lins hl hv) hP hD hS)
theorem r_iinc (h : OKm D c0 K own cc nL ret rm rq wo) {i : Nat} {z : Int} {x : Int32} (j : Nat) (v : Int32) (lv' : List (Nat × Value)) {n : Nat} (hd : decode cc pc = .ok (.iinc i z, 3)) (hj : lv[j]? = some (i, .int x)) (hz : x + Int32.ofInt z = v) (hlt : i < nL) (hv : lset1 lv i (.int v) = lv') (hn : pc + 3 = n) (kk : WW l D K nL n lv' (st) ws) : WW l D K nL pc lv (st) ws := by
  subst hn
  obtain ⟨p, e, R, s, m, args, below, meth, c, A, Q⟩ := K
  obtain ⟨hx, hb, hml, hown, hts, hR, hK, hNW, hlocks, hr, hQ⟩ := h
  intro ls H locs hl hP hD hS
  exact lv_iinc hx hb hd hl (k := j) hj hz hlt rfl (fun ls hl => kk ls H locs (lv_lins hl hv) hP hD hS)
theorem r_dup (h : OKm D c0 K own cc nL ret rm rq wo) {v : Value} {n : Nat} (hd : decode cc pc = .ok (.dup, 1)) (hc : v.category = 1) (hn : pc + 1 = n) (kk : WW l D K nL n lv (v :: v :: st) ws) : WW l D K nL pc lv (v :: st) ws := by
  subst hn
  obtain ⟨p, e, R, s, m, args, below, meth, c, A, Q⟩ := K
  obtain ⟨hx, hb, hml, hown, hts, hR, hK, hNW, hlocks, hr, hQ⟩ := h
  intro ls H locs hl hP hD hS
  exact lv_dup hx hb hd hc (kk ls H locs hl hP hD hS)
theorem r_dup2 (h : OKm D c0 K own cc nL ret rm rq wo) {v w : Value} {n : Nat} (hd : decode cc pc = .ok (.dup2, 1)) (hc : v.category = 1) (hc2 : w.category = 1) (hn : pc + 1 = n) (kk : WW l D K nL n lv (v :: w :: v :: w :: st) ws) : WW l D K nL pc lv (v :: w :: st) ws := by
  subst hn
  obtain ⟨p, e, R, s, m, args, below, meth, c, A, Q⟩ := K
  obtain ⟨hx, hb, hml, hown, hts, hR, hK, hNW, hlocks, hr, hQ⟩ := h
  intro ls H locs hl hP hD hS
  exact lv_dup2_11 hx hb hd hc hc2 (kk ls H locs hl hP hD hS)
theorem r_pop (h : OKm D c0 K own cc nL ret rm rq wo) {v : Value} {n : Nat} (hd : decode cc pc = .ok (.pop, 1)) (hc : v.category = 1) (hn : pc + 1 = n) (kk : WW l D K nL n lv (st) ws) : WW l D K nL pc lv (v :: st) ws := by
  subst hn
  obtain ⟨p, e, R, s, m, args, below, meth, c, A, Q⟩ := K
  obtain ⟨hx, hb, hml, hown, hts, hR, hK, hNW, hlocks, hr, hQ⟩ := h
  intro ls H locs hl hP hD hS
  exact lv_pop hx hb hd hc (kk ls H locs hl hP hD hS)
theorem r_if_eq (h : OKm D c0 K own cc nL ret rm rq wo) {x : Int32} {off : Int} (tgt : Nat) {n : Nat} (hd : decode cc pc = .ok (.ifCond .eq off, 3)) (ht : (pc : Int) + off = (tgt : Int)) (hn : pc + 3 = n) (kt : x = 0 → WW l D K nL tgt lv (st) ws) (kf : ¬ x = 0 → WW l D K nL n lv (st) ws) : WW l D K nL pc lv (.int x :: st) ws := by
  subst hn
  obtain ⟨p, e, R, s, m, args, below, meth, c, A, Q⟩ := K
  obtain ⟨hx, hb, hml, hown, hts, hR, hK, hNW, hlocks, hr, hQ⟩ := h
  intro ls H locs hl hP hD hS
  exact lv_if_eq hx hb hd ht (fun z => kt z ls H locs hl hP hD hS) (fun z => kf z ls H locs hl hP hD hS)
theorem r_if_ne (h : OKm D c0 K own cc nL ret rm rq wo) {x : Int32} {off : Int} (tgt : Nat) {n : Nat} (hd : decode cc pc = .ok (.ifCond .ne off, 3)) (ht : (pc : Int) + off = (tgt : Int)) (hn : pc + 3 = n) (kt : ¬ x = 0 → WW l D K nL tgt lv (st) ws) (kf : x = 0 → WW l D K nL n lv (st) ws) : WW l D K nL pc lv (.int x :: st) ws := by
  subst hn
  obtain ⟨p, e, R, s, m, args, below, meth, c, A, Q⟩ := K
  obtain ⟨hx, hb, hml, hown, hts, hR, hK, hNW, hlocks, hr, hQ⟩ := h
  intro ls H locs hl hP hD hS
  exact lv_if_ne hx hb hd ht (fun z => kt z ls H locs hl hP hD hS) (fun z => kf z ls H locs hl hP hD hS)
theorem r_if_lt (h : OKm D c0 K own cc nL ret rm rq wo) {x : Int32} {off : Int} (tgt : Nat) {n : Nat} (hd : decode cc pc = .ok (.ifCond .lt off, 3)) (ht : (pc : Int) + off = (tgt : Int)) (hn : pc + 3 = n) (kt : x < 0 → WW l D K nL tgt lv (st) ws) (kf : ¬ x < 0 → WW l D K nL n lv (st) ws) : WW l D K nL pc lv (.int x :: st) ws := by
  subst hn
  obtain ⟨p, e, R, s, m, args, below, meth, c, A, Q⟩ := K
  obtain ⟨hx, hb, hml, hown, hts, hR, hK, hNW, hlocks, hr, hQ⟩ := h
  intro ls H locs hl hP hD hS
  exact lv_if_lt hx hb hd ht (fun z => kt z ls H locs hl hP hD hS) (fun z => kf z ls H locs hl hP hD hS)
theorem r_if_ge (h : OKm D c0 K own cc nL ret rm rq wo) {x : Int32} {off : Int} (tgt : Nat) {n : Nat} (hd : decode cc pc = .ok (.ifCond .ge off, 3)) (ht : (pc : Int) + off = (tgt : Int)) (hn : pc + 3 = n) (kt : 0 ≤ x → WW l D K nL tgt lv (st) ws) (kf : ¬ 0 ≤ x → WW l D K nL n lv (st) ws) : WW l D K nL pc lv (.int x :: st) ws := by
  subst hn
  obtain ⟨p, e, R, s, m, args, below, meth, c, A, Q⟩ := K
  obtain ⟨hx, hb, hml, hown, hts, hR, hK, hNW, hlocks, hr, hQ⟩ := h
  intro ls H locs hl hP hD hS
  exact lv_if_ge hx hb hd ht (fun z => kt z ls H locs hl hP hD hS) (fun z => kf z ls H locs hl hP hD hS)
theorem r_if_gt (h : OKm D c0 K own cc nL ret rm rq wo) {x : Int32} {off : Int} (tgt : Nat) {n : Nat} (hd : decode cc pc = .ok (.ifCond .gt off, 3)) (ht : (pc : Int) + off = (tgt : Int)) (hn : pc + 3 = n) (kt : 0 < x → WW l D K nL tgt lv (st) ws) (kf : ¬ 0 < x → WW l D K nL n lv (st) ws) : WW l D K nL pc lv (.int x :: st) ws := by
  subst hn
  obtain ⟨p, e, R, s, m, args, below, meth, c, A, Q⟩ := K
  obtain ⟨hx, hb, hml, hown, hts, hR, hK, hNW, hlocks, hr, hQ⟩ := h
  intro ls H locs hl hP hD hS
  exact lv_if_gt hx hb hd ht (fun z => kt z ls H locs hl hP hD hS) (fun z => kf z ls H locs hl hP hD hS)
theorem r_if_le (h : OKm D c0 K own cc nL ret rm rq wo) {x : Int32} {off : Int} (tgt : Nat) {n : Nat} (hd : decode cc pc = .ok (.ifCond .le off, 3)) (ht : (pc : Int) + off = (tgt : Int)) (hn : pc + 3 = n) (kt : x ≤ 0 → WW l D K nL tgt lv (st) ws) (kf : ¬ x ≤ 0 → WW l D K nL n lv (st) ws) : WW l D K nL pc lv (.int x :: st) ws := by
  subst hn
  obtain ⟨p, e, R, s, m, args, below, meth, c, A, Q⟩ := K
  obtain ⟨hx, hb, hml, hown, hts, hR, hK, hNW, hlocks, hr, hQ⟩ := h
  intro ls H locs hl hP hD hS
  exact lv_if_le hx hb hd ht (fun z => kt z ls H locs hl hP hD hS) (fun z => kf z ls H locs hl hP hD hS)
theorem r_icmp_eq (h : OKm D c0 K own cc nL ret rm rq wo) {x y : Int32} {off : Int} (tgt : Nat) {n : Nat} (hd : decode cc pc = .ok (.if_icmp .eq off, 3)) (ht : (pc : Int) + off = (tgt : Int)) (hn : pc + 3 = n) (kt : x = y → WW l D K nL tgt lv (st) ws) (kf : ¬ x = y → WW l D K nL n lv (st) ws) : WW l D K nL pc lv (.int y :: .int x :: st) ws := by
  subst hn
  obtain ⟨p, e, R, s, m, args, below, meth, c, A, Q⟩ := K
  obtain ⟨hx, hb, hml, hown, hts, hR, hK, hNW, hlocks, hr, hQ⟩ := h
  intro ls H locs hl hP hD hS
  exact lv_icmp_eq hx hb hd ht (fun z => kt z ls H locs hl hP hD hS) (fun z => kf z ls H locs hl hP hD hS)
theorem r_icmp_ne (h : OKm D c0 K own cc nL ret rm rq wo) {x y : Int32} {off : Int} (tgt : Nat) {n : Nat} (hd : decode cc pc = .ok (.if_icmp .ne off, 3)) (ht : (pc : Int) + off = (tgt : Int)) (hn : pc + 3 = n) (kt : ¬ x = y → WW l D K nL tgt lv (st) ws) (kf : x = y → WW l D K nL n lv (st) ws) : WW l D K nL pc lv (.int y :: .int x :: st) ws := by
  subst hn
  obtain ⟨p, e, R, s, m, args, below, meth, c, A, Q⟩ := K
  obtain ⟨hx, hb, hml, hown, hts, hR, hK, hNW, hlocks, hr, hQ⟩ := h
  intro ls H locs hl hP hD hS
  exact lv_icmp_ne hx hb hd ht (fun z => kt z ls H locs hl hP hD hS) (fun z => kf z ls H locs hl hP hD hS)
theorem r_icmp_lt (h : OKm D c0 K own cc nL ret rm rq wo) {x y : Int32} {off : Int} (tgt : Nat) {n : Nat} (hd : decode cc pc = .ok (.if_icmp .lt off, 3)) (ht : (pc : Int) + off = (tgt : Int)) (hn : pc + 3 = n) (kt : x < y → WW l D K nL tgt lv (st) ws) (kf : ¬ x < y → WW l D K nL n lv (st) ws) : WW l D K nL pc lv (.int y :: .int x :: st) ws := by
  subst hn
  obtain ⟨p, e, R, s, m, args, below, meth, c, A, Q⟩ := K
  obtain ⟨hx, hb, hml, hown, hts, hR, hK, hNW, hlocks, hr, hQ⟩ := h
  intro ls H locs hl hP hD hS
  exact lv_icmp_lt hx hb hd ht (fun z => kt z ls H locs hl hP hD hS) (fun z => kf z ls H locs hl hP hD hS)
theorem r_icmp_ge (h : OKm D c0 K own cc nL ret rm rq wo) {x y : Int32} {off : Int} (tgt : Nat) {n : Nat} (hd : decode cc pc = .ok (.if_icmp .ge off, 3)) (ht : (pc : Int) + off = (tgt : Int)) (hn : pc + 3 = n) (kt : y ≤ x → WW l D K nL tgt lv (st) ws) (kf : ¬ y ≤ x → WW l D K nL n lv (st) ws) : WW l D K nL pc lv (.int y :: .int x :: st) ws := by
  subst hn
  obtain ⟨p, e, R, s, m, args, below, meth, c, A, Q⟩ := K
  obtain ⟨hx, hb, hml, hown, hts, hR, hK, hNW, hlocks, hr, hQ⟩ := h
  intro ls H locs hl hP hD hS
  exact lv_icmp_ge hx hb hd ht (fun z => kt z ls H locs hl hP hD hS) (fun z => kf z ls H locs hl hP hD hS)
theorem r_icmp_gt (h : OKm D c0 K own cc nL ret rm rq wo) {x y : Int32} {off : Int} (tgt : Nat) {n : Nat} (hd : decode cc pc = .ok (.if_icmp .gt off, 3)) (ht : (pc : Int) + off = (tgt : Int)) (hn : pc + 3 = n) (kt : y < x → WW l D K nL tgt lv (st) ws) (kf : ¬ y < x → WW l D K nL n lv (st) ws) : WW l D K nL pc lv (.int y :: .int x :: st) ws := by
  subst hn
  obtain ⟨p, e, R, s, m, args, below, meth, c, A, Q⟩ := K
  obtain ⟨hx, hb, hml, hown, hts, hR, hK, hNW, hlocks, hr, hQ⟩ := h
  intro ls H locs hl hP hD hS
  exact lv_icmp_gt hx hb hd ht (fun z => kt z ls H locs hl hP hD hS) (fun z => kf z ls H locs hl hP hD hS)
theorem r_icmp_le (h : OKm D c0 K own cc nL ret rm rq wo) {x y : Int32} {off : Int} (tgt : Nat) {n : Nat} (hd : decode cc pc = .ok (.if_icmp .le off, 3)) (ht : (pc : Int) + off = (tgt : Int)) (hn : pc + 3 = n) (kt : x ≤ y → WW l D K nL tgt lv (st) ws) (kf : ¬ x ≤ y → WW l D K nL n lv (st) ws) : WW l D K nL pc lv (.int y :: .int x :: st) ws := by
  subst hn
  obtain ⟨p, e, R, s, m, args, below, meth, c, A, Q⟩ := K
  obtain ⟨hx, hb, hml, hown, hts, hR, hK, hNW, hlocks, hr, hQ⟩ := h
  intro ls H locs hl hP hD hS
  exact lv_icmp_le hx hb hd ht (fun z => kt z ls H locs hl hP hD hS) (fun z => kf z ls H locs hl hP hD hS)
theorem r_goto (h : OKm D c0 K own cc nL ret rm rq wo) {off : Int} (tgt : Nat) (hd : decode cc pc = .ok (.goto off, 3)) (ht : (pc : Int) + off = (tgt : Int)) (kk : WW l D K nL tgt lv (st) ws) : WW l D K nL pc lv (st) ws := by
  obtain ⟨p, e, R, s, m, args, below, meth, c, A, Q⟩ := K
  obtain ⟨hx, hb, hml, hown, hts, hR, hK, hNW, hlocks, hr, hQ⟩ := h
  intro ls H locs hl hP hD hS
  exact lv_goto hx hb hd ht (kk ls H locs hl hP hD hS)
theorem r_tableIn (h : OKm D c0 K own cc nL ret rm rq wo) {dflt lo hi : Int} {offs : Array Int} {len : Nat} {x : Int32} {off : Int} (tgt : Nat) (hd : decode cc pc = .ok (.tableswitch dflt lo hi offs, len)) (h1 : ¬ x.toInt < lo) (h2 : ¬ hi < x.toInt) (ho : offs[(x.toInt - lo).toNat]? = some off) (ht : (pc : Int) + off = (tgt : Int)) (kk : WW l D K nL tgt lv (st) ws) : WW l D K nL pc lv (.int x :: st) ws := by
  obtain ⟨p, e, R, s, m, args, below, meth, c, A, Q⟩ := K
  obtain ⟨hx, hb, hml, hown, hts, hR, hK, hNW, hlocks, hr, hQ⟩ := h
  intro ls H locs hl hP hD hS
  exact lv_tableIn hx hb hd h1 h2 ho ht (kk ls H locs hl hP hD hS)
theorem r_tableOut (h : OKm D c0 K own cc nL ret rm rq wo) {dflt lo hi : Int} {offs : Array Int} {len : Nat} {x : Int32} (tgt : Nat) (hd : decode cc pc = .ok (.tableswitch dflt lo hi offs, len)) (h1 : x.toInt < lo ∨ hi < x.toInt) (ht : (pc : Int) + dflt = (tgt : Int)) (kk : WW l D K nL tgt lv (st) ws) : WW l D K nL pc lv (.int x :: st) ws := by
  obtain ⟨p, e, R, s, m, args, below, meth, c, A, Q⟩ := K
  obtain ⟨hx, hb, hml, hown, hts, hR, hK, hNW, hlocks, hr, hQ⟩ := h
  intro ls H locs hl hP hD hS
  exact lv_tableOut hx hb hd h1 ht (kk ls H locs hl hP hD hS)
theorem r_get (h : OKm D c0 K own cc nL ret rm rq wo) {ci : Nat} {C : String} {T : u_T} {N : Nat} {ty0 : Nat → FieldType} (F : CF ci C T N ty0) {a i : Nat} (q0 k : Nat) {fs : List Value} {v : Value} {n : Nat} (hw : Cond.fieldLink own i (T k).1 (T k).2.1 (T k).2.2.1 ∈ tbl) (he : ws[q0]? = some (a, .inr (ci, fs))) (hk : k < N) (hv : fs[k]? = some v) (hd : decode cc pc = .ok (.getfield i, 3)) (hn : pc + 3 = n) (kk : WW l D K nL n lv (v :: st) ws) : WW l D K nL pc lv (.ref a :: st) ws := by
  subst hn
  obtain ⟨p, e, R, s, m, args, below, meth, c, A, Q⟩ := K
  obtain ⟨hx, hb, hml, hown, hts, hR, hK, hNW, hlocks, hr, hQ⟩ := h
  intro ls H locs hl hP hD hS
  exact va_get hx hb hts F.2.1 hown hK hP q0 he F.1 k hk (hts _ hw) (fun _ z => z) hv hd (kk ls H locs hl hP hD hS)
theorem r_put (h : OKm D c0 K own cc nL ret rm rq wo) {ci : Nat} {C : String} {T : u_T} {N : Nat} {ty0 : Nat → FieldType} (F : CF ci C T N ty0) {a i : Nat} (q0 k : Nat) {fs : List Value} {v : Value} (ws' : va_W) {n : Nat} (hw : Cond.fieldLink own i (T k).1 (T k).2.1 (T k).2.2.1 ∈ tbl) (he : ws[q0]? = some (a, .inr (ci, fs))) (hk : k < N) (hfin : (T k).2.2.2 = false) (hnr : narrow (ty0 k) v = v) (hfit : fits (ty0 k) v = true) (hlen : k < fs.length) (hws : ws.set q0 (a, .inr (ci, fs.set k v)) = ws') (hd : decode cc pc = .ok (.putfield i, 3)) (hn : pc + 3 = n) (kk : WW l D K nL n lv (st) ws') : WW l D K nL pc lv (v :: .ref a :: st) ws := by
  subst hn
  obtain ⟨p, e, R, s, m, args, below, meth, c, A, Q⟩ := K
  obtain ⟨hx, hb, hml, hown, hts, hR, hK, hNW, hlocks, hr, hQ⟩ := h
  intro ls H locs hl hP hD hS
  exact va_put hx hb hts F.2.1 ty0 F.2.2.1 F.2.2.2 hown hK hP hD hS q0 he F.1 k hk (hts _ hw) (fun _ z => z) hfin (F.2.2.1 k hk) hnr hfit hlen hd (fun H1 locs1 hP hD hS => kk ls H1 locs1 hl (hws ▸ hP) (hws ▸ hD) hS)
theorem r_iald (h : OKm D c0 K own cc nL ret rm rq wo) {a m0 : Nat} {f : Nat → Int32} {i : Int32} (q0 : Nat) {n : Nat} (he : ws[q0]? = some (a, .inl (c0 0, m0, .inl f))) (hi : vp_in i m0) (hd : decode cc pc = .ok (.iaload, 1)) (hn : pc + 1 = n) (kk : WW l D K nL n lv (.int (f i.toNatClampNeg) :: st) ws) : WW l D K nL pc lv (.int i :: .ref a :: st) ws := by
  subst hn
  obtain ⟨p, e, R, s, m, args, below, meth, c, A, Q⟩ := K
  obtain ⟨hx, hb, hml, hown, hts, hR, hK, hNW, hlocks, hr, hQ⟩ := h
  intro ls H locs hl hP hD hS
  exact va_iald hx hb hK hP q0 0 he rfl hi hd (kk ls H locs hl hP hD hS)
theorem r_zald (h : OKm D c0 K own cc nL ret rm rq wo) {a m0 : Nat} {f : Nat → Int32} {i : Int32} (q0 : Nat) {n : Nat} (he : ws[q0]? = some (a, .inl (c0 2, m0, .inl f))) (hi : vp_in i m0) (hd : decode cc pc = .ok (.baload, 1)) (hn : pc + 1 = n) (kk : WW l D K nL n lv (.int (f i.toNatClampNeg) :: st) ws) : WW l D K nL pc lv (.int i :: .ref a :: st) ws := by
  subst hn
  obtain ⟨p, e, R, s, m, args, below, meth, c, A, Q⟩ := K
  obtain ⟨hx, hb, hml, hown, hts, hR, hK, hNW, hlocks, hr, hQ⟩ := h
  intro ls H locs hl hP hD hS
  exact va_zald hx hb hK hP q0 2 he rfl hi hd (kk ls H locs hl hP hD hS)
theorem r_lald (h : OKm D c0 K own cc nL ret rm rq wo) {a m0 : Nat} {f : Nat → Int64} {i : Int32} (q0 : Nat) {n : Nat} (he : ws[q0]? = some (a, .inl (c0 1, m0, .inr (.inl f)))) (hi : vp_in i m0) (hd : decode cc pc = .ok (.laload, 1)) (hn : pc + 1 = n) (kk : WW l D K nL n lv (.long (f i.toNatClampNeg) :: st) ws) : WW l D K nL pc lv (.int i :: .ref a :: st) ws := by
  subst hn
  obtain ⟨p, e, R, s, m, args, below, meth, c, A, Q⟩ := K
  obtain ⟨hx, hb, hml, hown, hts, hR, hK, hNW, hlocks, hr, hQ⟩ := h
  intro ls H locs hl hP hD hS
  exact va_lald hx hb hK hP q0 1 he rfl hi hd (kk ls H locs hl hP hD hS)
theorem r_aldq (h : OKm D c0 K own cc nL ret rm rq wo) {a m0 : Nat} {f : Nat → Option Nat} {C : String} {i : Int32} {b : Nat} (q0 t0 : Nat) {n : Nat} {cA : ClassId} (he : ws[q0]? = some (a, .inl (cA, m0, .inr (.inr (.inr (.inr f)))))) (ht : (TY c0)[t0]? = some (cA, .object C)) (hi : vp_in i m0) (hf : f i.toNatClampNeg = some b) (hd : decode cc pc = .ok (.aaload, 1)) (hn : pc + 1 = n) (kk : WW l D K nL n lv (.ref b :: st) ws) : WW l D K nL pc lv (.int i :: .ref a :: st) ws := by
  subst hn
  obtain ⟨p, e, R, s, m, args, below, meth, c, A, Q⟩ := K
  obtain ⟨hx, hb, hml, hown, hts, hR, hK, hNW, hlocks, hr, hQ⟩ := h
  intro ls H locs hl hP hD hS
  refine va_aldq hx hb hK hP q0 t0 he ht hi hd ?_
  rw [hf]
  exact kk ls H locs hl hP hD hS
theorem r_aldg (h : OKm D c0 K own cc nL ret rm rq wo) {a m0 : Nat} {f : Nat → Option Nat} {i : Int32} {b : Nat} (q0 : Nat) {n : Nat} (he : ws[q0]? = some (a, .inl (c0 5, m0, .inr (.inr (.inr (.inr f)))))) (hi : vp_in i m0) (hf : f i.toNatClampNeg = some b) (hd : decode cc pc = .ok (.aaload, 1)) (hn : pc + 1 = n) (kk : WW l D K nL n lv (.ref b :: st) ws) : WW l D K nL pc lv (.int i :: .ref a :: st) ws := by
  subst hn
  obtain ⟨p, e, R, s, m, args, below, meth, c, A, Q⟩ := K
  obtain ⟨hx, hb, hml, hown, hts, hR, hK, hNW, hlocks, hr, hQ⟩ := h
  intro ls H locs hl hP hD hS
  have hlt : i.toNatClampNeg < m0 := Nat.not_le.mp fun q => hi (Or.inr q)
  exact W.aald (v := .ref b) (ty := .array .int) hx hb (hP q0 _ he) ((hK.2 5 _ rfl).1 m0 (fun j => va_rf (f j))) rfl (fun q => by cases q) (by show ¬ (i < 0 ∨ (arrV _ _ _).slots.size ≤ _); rw [arrV_size]; exact hi) (by show (arrV _ _ _).slots[_]? = _; rw [arrV_read _ _ hlt, hf]; rfl) rfl rfl hd (kk ls H locs hl hP hD hS)
theorem r_iast (h : OKm D c0 K own cc nL ret rm rq wo) {a m0 : Nat} {f : Nat → Int32} {i x : Int32} (q0 : Nat) (ws' : va_W) {n : Nat} (he : ws[q0]? = some (a, .inl (c0 0, m0, .inl f))) (hi : vp_in i m0) (hws : ws.set q0 (a, .inl (c0 0, m0, .inl (upd f i.toNatClampNeg x))) = ws') (hd : decode cc pc = .ok (.iastore, 1)) (hn : pc + 1 = n) (kk : WW l D K nL n lv (st) ws') : WW l D K nL pc lv (.int x :: .int i :: .ref a :: st) ws := by
  subst hn
  obtain ⟨p, e, R, s, m, args, below, meth, c, A, Q⟩ := K
  obtain ⟨hx, hb, hml, hown, hts, hR, hK, hNW, hlocks, hr, hQ⟩ := h
  intro ls H locs hl hP hD hS
  exact va_iast hx hb hK hP hD hS q0 0 he rfl hi hd (fun H1 locs1 hP hD hS => kk ls H1 locs1 hl (hws ▸ hP) (hws ▸ hD) hS)
theorem r_zast (h : OKm D c0 K own cc nL ret rm rq wo) {a m0 : Nat} {f : Nat → Int32} {i x : Int32} (q0 : Nat) (ws' : va_W) {n : Nat} (he : ws[q0]? = some (a, .inl (c0 2, m0, .inl f))) (hi : vp_in i m0) (hws : ws.set q0 (a, .inl (c0 2, m0, .inl (upd f i.toNatClampNeg (vp_nar .boolean x)))) = ws') (hd : decode cc pc = .ok (.bastore, 1)) (hn : pc + 1 = n) (kk : WW l D K nL n lv (st) ws') : WW l D K nL pc lv (.int x :: .int i :: .ref a :: st) ws := by
  subst hn
  obtain ⟨p, e, R, s, m, args, below, meth, c, A, Q⟩ := K
  obtain ⟨hx, hb, hml, hown, hts, hR, hK, hNW, hlocks, hr, hQ⟩ := h
  intro ls H locs hl hP hD hS
  exact va_zast hx hb hK hP hD hS q0 2 he rfl hi hd (fun H1 locs1 hP hD hS => kk ls H1 locs1 hl (hws ▸ hP) (hws ▸ hD) hS)
theorem r_last (h : OKm D c0 K own cc nL ret rm rq wo) {a m0 : Nat} {f : Nat → Int64} {i : Int32} {x : Int64} (q0 : Nat) (ws' : va_W) {n : Nat} (he : ws[q0]? = some (a, .inl (c0 1, m0, .inr (.inl f)))) (hi : vp_in i m0) (hws : ws.set q0 (a, .inl (c0 1, m0, .inr (.inl (vp_updL f i.toNatClampNeg x)))) = ws') (hd : decode cc pc = .ok (.lastore, 1)) (hn : pc + 1 = n) (kk : WW l D K nL n lv (st) ws') : WW l D K nL pc lv (.long x :: .int i :: .ref a :: st) ws := by
  subst hn
  obtain ⟨p, e, R, s, m, args, below, meth, c, A, Q⟩ := K
  obtain ⟨hx, hb, hml, hown, hts, hR, hK, hNW, hlocks, hr, hQ⟩ := h
  intro ls H locs hl hP hD hS
  exact va_last hx hb hK hP hD hS q0 1 he rfl hi hd (fun H1 locs1 hP hD hS => kk ls H1 locs1 hl (hws ▸ hP) (hws ▸ hD) hS)
theorem r_mmax (h : OKm D c0 K own cc nL ret rm rq wo) {x y : Int32} {i : Nat} {n : Nat} (hw : Cond.methodLink own i Lib.Math.max.name ∈ tbl) (hf : 1 ≤ rm.frames) (hloc : (st.map fun v => v.category).sum + 13 ≤ rm.locals) (hd : decode cc pc = .ok (.invokestatic i, 3)) (hn : pc + 3 = n) (kk : WW l D K nL n lv (.int (if x < y then y else x) :: st) ws) : WW l D K nL pc lv (.int y :: .int x :: st) ws := by
  subst hn
  obtain ⟨p, e, R, s, m, args, below, meth, c, A, Q⟩ := K
  obtain ⟨hx, hb, hml, hown, hts, hR, hK, hNW, hlocks, hr, hQ⟩ := h
  intro ls H locs hl hP hD hS
  subst hR
  exact va_mmax hx hb (hml.trans hl.1.symm) hown (hts _ hw) (hts _ m_max1) (hts _ m_max2) (hts _ m_max3) hf hloc (Nat.zero_le _) (Nat.zero_le _) hd (kk ls H locs hl hP hD hS)
theorem r_mmin (h : OKm D c0 K own cc nL ret rm rq wo) {x y : Int32} {i : Nat} {n : Nat} (hw : Cond.methodLink own i Lib.Math.min.name ∈ tbl) (hf : 1 ≤ rm.frames) (hloc : (st.map fun v => v.category).sum + 13 ≤ rm.locals) (hd : decode cc pc = .ok (.invokestatic i, 3)) (hn : pc + 3 = n) (kk : WW l D K nL n lv (.int (if y < x then y else x) :: st) ws) : WW l D K nL pc lv (.int y :: .int x :: st) ws := by
  subst hn
  obtain ⟨p, e, R, s, m, args, below, meth, c, A, Q⟩ := K
  obtain ⟨hx, hb, hml, hown, hts, hR, hK, hNW, hlocks, hr, hQ⟩ := h
  intro ls H locs hl hP hD hS
  subst hR
  exact va_mmin hx hb (hml.trans hl.1.symm) hown (hts _ hw) (hts _ m_min1) (hts _ m_min2) (hts _ m_min3) hf hloc (Nat.zero_le _) (Nat.zero_le _) hd (kk ls H locs hl hP hD hS)
theorem r_iret {v : Int32} (h : OKm D c0 K own cc nL (some .int) rm (some (.int v)) ws) (hd : decode cc pc = .ok (.ireturn, 1)) : WW l D K nL pc lv ([.int v]) ws := by
  obtain ⟨p, e, R, s, m, args, below, meth, c, A, Q⟩ := K
  obtain ⟨hx, hb, hml, hown, hts, hR, hK, hNW, hlocks, hr, hQ⟩ := h
  intro ls H locs hl hP hD hS
  subst hQ
  exact W.iret hx hb hr (fun t ht hW => ⟨rfl, by rw [ht]; exact hP, hS.F ht⟩) hS.2.2 hd hlocks
theorem r_lret {v : Int64} (h : OKm D c0 K own cc nL (some .long) rm (some (.long v)) ws) (hd : decode cc pc = .ok (.lreturn, 1)) : WW l D K nL pc lv ([.long v]) ws := by
  obtain ⟨p, e, R, s, m, args, below, meth, c, A, Q⟩ := K
  obtain ⟨hx, hb, hml, hown, hts, hR, hK, hNW, hlocks, hr, hQ⟩ := h
  intro ls H locs hl hP hD hS
  subst hQ
  exact W.lret hx hb hr (fun t ht hW => ⟨rfl, by rw [ht]; exact hP, hS.F ht⟩) hS.2.2 hd hlocks
theorem r_zret {v : Int32} (h : OKm D c0 K own cc nL (some .boolean) rm (some (.int v)) ws) (hv : narrow .boolean (.int v) = .int v) (hd : decode cc pc = .ok (.ireturn, 1)) : WW l D K nL pc lv ([.int v]) ws := by
  obtain ⟨p, e, R, s, m, args, below, meth, c, A, Q⟩ := K
  obtain ⟨hx, hb, hml, hown, hts, hR, hK, hNW, hlocks, hr, hQ⟩ := h
  intro ls H locs hl hP hD hS
  subst hQ
  exact W.zret hx hb hr hv (fun t ht hW => ⟨rfl, by rw [ht]; exact hP, hS.F ht⟩) hS.2.2 hd hlocks
theorem r_vret (h : OKm D c0 K own cc nL none rm none ws) (hd : decode cc pc = .ok (.return_, 1)) : WW l D K nL pc lv ([]) ws := by
  obtain ⟨p, e, R, s, m, args, below, meth, c, A, Q⟩ := K
  obtain ⟨hx, hb, hml, hown, hts, hR, hK, hNW, hlocks, hr, hQ⟩ := h
  intro ls H locs hl hP hD hS
  subst hQ
  exact W.vret hx hb hr (fun t ht hW => ⟨rfl, by rw [ht]; exact hP, hS.F ht⟩) hS.2.2 hd hlocks
/-- a call that has run: what is behind it -/
theorem r_called {p : Program} {e : Env} {R : Room} {s : State} {m : MethodId} {args : Array Value} {below : List Frame} {meth : Method} {c : Code} {A : Nat → Prop} {Q : State → Prop} {H : Heap} {locs : List Loc} {ls : Array Slot} {a : Array Value} {wc wc' : va_W} {rv : Option Value} {st0 : List Value}
    (hr : va_Run p l e R s m args below meth c H locs 0 0 0 0 (F0 m pc ls st0) st (Qz D (wA wc) rv wc' a) (wA wc)) (hS : va_S A s.heap H locs) (hA : ∀ q, wA wc q → A q)
    (kk : ∀ (H1 : Heap) (locs1 : List Loc), va_P D vwCl wc' H1 → (∀ q : Nat, q < H.size → ¬ wA wc q → H1[q]? = H[q]?) → va_S A s.heap H1 locs1 → W p l e R s m args below meth c H1 locs1 0 0 Q (F0 m (pc + 3) ls (rv.toList ++ st))) : W p l e R s m args below meth c H locs 0 0 Q (F0 m pc ls st0) := by
  intro T hT X
  obtain ⟨v, st₀, t, T', L, h0, X', hL, e1, e2, ⟨hv, hp, hz, hk⟩, step⟩ := hr T hT X
  cases hv
  rw [h0] at hz hk
  obtain ⟨t2, a1, b1⟩ := kk T'.heap (locs ++ L) (by rw [e1]; exact hp) (fun q h1 h2 => by rw [e1]; exact hk q h1 h2)
    ⟨Nat.le_trans hS.1 (by rw [e1]; exact hz), fun q h1 h2 => by rw [e1, hk q (Nat.lt_of_lt_of_le h1 hS.1) (fun z => h2 (hA q z))]; exact hS.2.1 q h1 h2, fun q hq => by
      rcases List.mem_append.mp hq with h | h
      · exact hS.2.2 q h
      · exact hA _ (hL q h)⟩ T' rfl X'
  exact ⟨t2, step t2 a1, b1⟩
theorem Pz_blind {av : List Value} {wi : va_W} : FrameBlind (Pz D c0 av wi) := fun a U g mk q => ⟨q.1, q.2.1, va_K.moved (u := U) (U := U.calling g mk a) (Vm.Alike.refl U.vm) q.2.2.1, q.2.2.2.1.calling g mk a, q.2.2.2.2⟩
/-- what the tables say of a method -/
def MI (y : MethodName) (cc : ByteArray) (nL : Nat) (ret : Option FieldType) (n : Nat) : Prop := Cond.code y cc nL ret ∈ tbl ∧ Cond.initialized y.cls ∈ tbl ∧ (y.cls ≠ "java/lang/invoke/MethodHandle" ∧ y.cls ≠ "java/lang/invoke/VarHandle" ∧ (parseMethodDescriptor y.desc).map (fun d => d.parameters.length) = some n)
def MV (y : MethodName) : Prop := Cond.instanceMethod y ∈ tbl ∧ Cond.selects y.cls y y ∈ tbl
theorem r_callV (h : OKm D c0 K own cc nL ret rm rq wo) {y : MethodName} {cc' : ByteArray} {nL' : Nat} {ret' : Option FieldType} {rm' : Room} {np i b : Nat} {As : List Value} {wc wc' : va_W} {rv : Option Value} (M : MI y cc' nL' ret' np) (V : MV y) (hw : Cond.methodLink own i y ∈ tbl)
    (hM : Ct l D c0 y cc' nL' ret' rm' (.ref b :: As) wc rv wc') (isC : List Nat) {ci : Nat} {fs : List Value} {r : vw_C} (ws' : va_W) {n : Nat} (hC : isC.map (fun i => ws[i]?) = wc.map some) (hnd : va_nd isC = true) (h0 : wc[0]? = some (b, .inr (ci, fs))) (hci : vwCl[ci]? = some r) (hr1 : r.1 = y.cls) (hlen : isC.length = wc'.length)
    (hws : setAll ws isC wc' = ws') (hfst : ws'.map Prod.fst = ws.map Prod.fst) (hnp : As.length = np) (hrm : rm'.cells = 0 ∧ rm'.slots = 0 ∧ rm'.frames + 1 ≤ rm.frames ∧ 8 + (nL' + 11) + rm'.locals ≤ rm.locals) {st0 st1 : List Value} (hst1 : rv.toList ++ st = st1) (hst : st0 = As.reverse ++ .ref b :: st) (hsum : (st.map fun v => v.category).sum ≤ 8) (hd : decode cc pc = .ok (.invokevirtual i, 3)) (hn : pc + 3 = n)
    (kk : WW l D K nL n lv st1 ws') : WW l D K nL pc lv st0 ws := by
  subst hn hst hst1
  obtain ⟨p, e, R, s, m, args, below, meth, c, A, Q⟩ := K
  obtain ⟨hx, hb, hml, hown, hts, hR, hK, hNW, hlocks, hr, hQ⟩ := h
  intro ls H locs hl hP hD hS
  subst hR hws
  have hPc := sub_P hP isC hC
  refine r_called (va_runV (As := As) (rest := st) ⟨hx, hb, hml, hown, hts⟩ hM (C := y.cls) ⟨callB_of np hts (tbl_in M.1) rfl hrm.1 hrm.2.1 (hts _ M.2.1) (hts _ hw) M.2.2 hrm.2.2, hts _ V.1, hts _ V.2⟩ ⟨Pz_blind, ?_, fun U hU hW => ⟨rfl, by rw [hU]; exact hPc, va_K.moved hW.alike hK, hNW.warm hW, sub_D hD isC hnd hC (fun _ => trivial)⟩⟩ rfl hnp hl.1 rfl (lv_room hsum) hd ⟨Nat.zero_le _, Nat.zero_le _⟩) hS (sub_A hD isC hC) (fun H1 locs1 hP1 hk hS => kk ls H1 locs1 hl (setAll_P hP hD isC hC hlen hk hP1) (va_D_fst hD hfst) hS)
  rw [← hr1]
  exact va_recv hK hPc hci h0
theorem r_callT (h : OKm D c0 K own cc nL ret rm rq wo) {y : MethodName} {cc' : ByteArray} {nL' : Nat} {ret' : Option FieldType} {rm' : Room} {np i b : Nat} {As : List Value} {wc' : va_W} {rv : Option Value} (M : MI y cc' nL' ret' np) (V : MV y) (hw : Cond.methodLink own i y ∈ tbl)
    (hM : Ct l D c0 y cc' nL' ret' rm' (.ref b :: As) ws rv wc') {ci : Nat} {fs : List Value} {r : vw_C} (ws' : va_W) {n : Nat} (h0 : ws[0]? = some (b, .inr (ci, fs))) (hci : vwCl[ci]? = some r) (hr1 : r.1 = y.cls) 
    (hws : wc' = ws') (hfst : ws'.map Prod.fst = ws.map Prod.fst) (hnp : As.length = np) (hrm : rm'.cells = 0 ∧ rm'.slots = 0 ∧ rm'.frames + 1 ≤ rm.frames ∧ 8 + (nL' + 11) + rm'.locals ≤ rm.locals) {st0 st1 : List Value} (hst1 : rv.toList ++ st = st1) (hst : st0 = As.reverse ++ .ref b :: st) (hsum : (st.map fun v => v.category).sum ≤ 8) (hd : decode cc pc = .ok (.invokevirtual i, 3)) (hn : pc + 3 = n)
    (kk : WW l D K nL n lv st1 ws') : WW l D K nL pc lv st0 ws := by
  subst hn hst hst1
  obtain ⟨p, e, R, s, m, args, below, meth, c, A, Q⟩ := K
  obtain ⟨hx, hb, hml, hown, hts, hR, hK, hNW, hlocks, hr, hQ⟩ := h
  intro ls H locs hl hP hD hS
  subst hR hws
  refine r_called (va_runV (As := As) (rest := st) ⟨hx, hb, hml, hown, hts⟩ hM (C := y.cls) ⟨callB_of np hts (tbl_in M.1) rfl hrm.1 hrm.2.1 (hts _ M.2.1) (hts _ hw) M.2.2 hrm.2.2, hts _ V.1, hts _ V.2⟩ ⟨Pz_blind, ?_, fun U hU hW => ⟨rfl, by rw [hU]; exact hP, va_K.moved hW.alike hK, hNW.warm hW, hD.weaken (fun _ _ _ _ => trivial)⟩⟩ rfl hnp hl.1 rfl (lv_room hsum) hd ⟨Nat.zero_le _, Nat.zero_le _⟩) hS (fun q z => by obtain ⟨k, e, z⟩ := z; exact hD.2 k _ z) (fun H1 locs1 hP1 hk hS => kk ls H1 locs1 hl hP1 (va_D_fst hD hfst) hS)
  rw [← hr1]
  exact va_recv hK hP hci h0
theorem r_callS (h : OKm D c0 K own cc nL ret rm rq wo) {y : MethodName} {cc' : ByteArray} {nL' : Nat} {ret' : Option FieldType} {rm' : Room} {np i : Nat} {As : List Value} {wc wc' : va_W} {rv : Option Value} (M : MI y cc' nL' ret' np) (V : Cond.static y ∈ tbl) (hw : Cond.methodLink own i y ∈ tbl)
    (hM : Ct l D c0 y cc' nL' ret' rm' As wc rv wc') (isC : List Nat) (ws' : va_W) {n : Nat} (hC : isC.map (fun i => ws[i]?) = wc.map some) (hnd : va_nd isC = true) (hlen : isC.length = wc'.length)
    (hws : setAll ws isC wc' = ws') (hfst : ws'.map Prod.fst = ws.map Prod.fst) (hnp : As.length = np) (hrm : rm'.cells = 0 ∧ rm'.slots = 0 ∧ rm'.frames + 1 ≤ rm.frames ∧ 8 + (nL' + 11) + rm'.locals ≤ rm.locals) {st0 st1 : List Value} (hst1 : rv.toList ++ st = st1) (hst : st0 = As.reverse ++ st) (hsum : (st.map fun v => v.category).sum ≤ 8) (hd : decode cc pc = .ok (.invokestatic i, 3)) (hn : pc + 3 = n)
    (kk : WW l D K nL n lv st1 ws') : WW l D K nL pc lv st0 ws := by
  subst hn hst hst1
  obtain ⟨p, e, R, s, m, args, below, meth, c, A, Q⟩ := K
  obtain ⟨hx, hb, hml, hown, hts, hR, hK, hNW, hlocks, hr, hQ⟩ := h
  intro ls H locs hl hP hD hS
  subst hR hws
  have hPc := sub_P hP isC hC
  exact r_called (va_runS (As := As) (rest := st) ⟨hx, hb, hml, hown, hts⟩ hM ⟨callB_of np hts (tbl_in M.1) rfl hrm.1 hrm.2.1 (hts _ M.2.1) (hts _ hw) M.2.2 hrm.2.2, hts _ V⟩ ⟨Pz_blind, fun U hU hW => ⟨rfl, by rw [hU]; exact hPc, va_K.moved hW.alike hK, hNW.warm hW, sub_D hD isC hnd hC (fun _ => trivial)⟩⟩ rfl hnp hl.1 rfl (lv_room hsum) hd ⟨Nat.zero_le _, Nat.zero_le _⟩) hS (sub_A hD isC hC) (fun H1 locs1 hP1 hk hS => kk ls H1 locs1 hl (setAll_P hP hD isC hC hlen hk hP1) (va_D_fst hD hfst) hS)
theorem r_callN (h : OKm D c0 K own cc nL ret rm rq wo) {y : MethodName} {host : String} {cc' : ByteArray} {nL' : Nat} {ret' : Option FieldType} {rm' : Room} {np i : Nat} {As : List Value} {wc wc' : va_W} {rv : Option Value} (M : MI y cc' nL' ret' np) (V : Cond.static y ∈ tbl) (hw : Cond.methodLinkNest own i y host ∈ nests)
    (hM : Ct l D c0 y cc' nL' ret' rm' As wc rv wc') (isC : List Nat) (ws' : va_W) {n : Nat} (hC : isC.map (fun i => ws[i]?) = wc.map some) (hnd : va_nd isC = true) (hlen : isC.length = wc'.length)
    (hws : setAll ws isC wc' = ws') (hfst : ws'.map Prod.fst = ws.map Prod.fst) (hnp : As.length = np) (hrm : rm'.cells = 0 ∧ rm'.slots = 0 ∧ rm'.frames + 1 ≤ rm.frames ∧ 8 + (nL' + 11) + rm'.locals ≤ rm.locals) {st0 st1 : List Value} (hst1 : rv.toList ++ st = st1) (hst : st0 = As.reverse ++ st) (hsum : (st.map fun v => v.category).sum ≤ 8) (hd : decode cc pc = .ok (.invokestatic i, 3)) (hn : pc + 3 = n)
    (kk : WW l D K nL n lv st1 ws') : WW l D K nL pc lv st0 ws := by
  subst hn hst hst1
  obtain ⟨p, e, R, s, m, args, below, meth, c, A, Q⟩ := K
  obtain ⟨hx, hb, hml, hown, hts, hR, hK, hNW, hlocks, hr, hQ⟩ := h
  intro ls H locs hl hP hD hS
  subst hR hws
  have hPc := sub_P hP isC hC
  exact r_called (va_runSN (As := As) (rest := st) ⟨hx, hb, hml, hown, hts⟩ hM ⟨va_cnB np hts (tbl_in M.1) rfl hrm.1 hrm.2.1 (hNW _ hw) (hts _ M.2.1) M.2.2 hrm.2.2, hts _ V, trivial⟩ ⟨Pz_blind, fun U hU hW => ⟨rfl, by rw [hU]; exact hPc, va_K.moved hW.alike hK, hNW.warm hW, sub_D hD isC hnd hC (fun _ => trivial)⟩⟩ rfl hnp hl.1 rfl (lv_room hsum) hd ⟨Nat.zero_le _, Nat.zero_le _⟩) hS (sub_A hD isC hC) (fun H1 locs1 hP1 hk hS => kk ls H1 locs1 hl (setAll_P hP hD isC hC hlen hk hP1) (va_D_fst hD hfst) hS)
/-- a contract out of one walk -/
theorem Ct.mk {y : MethodName} {av : List Value} {wi : va_W} {rv : Option Value} {wo1 : va_W} (lv0 : List (Nat × Value)) (ho : y.cls = own) (hy : plainName own = true) (hlv : lv_args 0 av = lv0) (hav : (lg_sl av).length ≤ nL)
    (body : ∀ K : KT, OKm D c0 K own cc nL ret rm rv wo1 → WW l D K nL 0 lv0 [] wi) : Ct l D c0 y cc nL ret rm av wi rv wo1 := by
  subst ho
  refine Met.ofW (cc := cc) (maxL := nL) (ret := ret) hy rfl ?_
  intro p e s m args below meth c s₁ B hml hv
  obtain ⟨rfl, hP, hK, hNW, hD⟩ := hv
  have hts := atoms_spec (ws := .code y cc nL ret :: tbl) B.pre
  have hl := lv_entry av (n := nL) hav
  rw [lg_entry_eq]
  subst hlv
  exact body (p, e, rm, s, m, av.toArray, below, meth, c, wA wi, _) ⟨B.exec, B.bytes, hml, findClass_of_methodNamed B.named, fun w hw => hts w (List.mem_cons_of_mem _ hw), rfl, hK, hNW, B.notSynchronized, B.returns, rfl⟩ _ _ _ hl hP ⟨hD.1, fun k q hk => ⟨k, q.2, hk⟩⟩ va_S.rf
theorem r_lv (ks : List Nat) {lv' : List (Nat × Value)} (hl : lv_pick lv ks = lv') (kk : WW l D K nL pc lv' st ws) : WW l D K nL pc lv st ws := by
  obtain ⟨p, e, R, s, m, args, below, meth, c, A, Q⟩ := K
  intro ls H locs h hP hD hS
  exact kk ls H locs (lv_sub h ks hl) hP hD hS
theorem r_nmi {α : Type} {x : Int32} {g : Int32 → Option α} {z : α} (hf : nm x g = some z) (kk : ∀ y : Int32, g y = some z → WW l D K nL pc lv (.int y :: st) ws) : WW l D K nL pc lv (.int x :: st) ws := kk x hf
theorem r_nml {α : Type} {x : Int64} {g : Int64 → Option α} {z : α} (hf : nm x g = some z) (kk : ∀ y : Int64, g y = some z → WW l D K nL pc lv (.long y :: st) ws) : WW l D K nL pc lv (.long x :: st) ws := kk x hf
end RR

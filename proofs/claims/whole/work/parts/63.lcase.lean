/-! ===== the cases of the law's switch (printed by wip/gen/genlaw.py) ===== -/
theorem C6_hd {c0 : Nat → ClassId} {ad : Nat → Nat} {w : va_W} {n : Nat → Nat} {β tr : Nat → Nat → Nat} {st : Nat → Nat} {h : Nat} {ea eb : Nat → Nat} {lo : Nat → Bool} {fo si : Nat → Nat} {it : Nat → Nat → Int32} {fd : Int32} (hC : C6 c0 ad w n β tr st h ea eb lo fo si it fd) : ∃ fs, w[0]? = some (ad 0, .inr (6, fs)) := by
  refine hC _ ?_
  intro t0_bytes t0_size t0_faultAt t0_known t0_bits t1_bytes t1_size t1_faultAt t1_known t1_bits t2_bytes t2_size t2_faultAt t2_known t2_bits tr0 tr1 tr2 settings h_inRow h_inFrontOf h_liftedFor h_takers h_takerCount h_laid h_judgedGuest h_liftedInAll cr_outs cr_entered cr_room cr_latestEntry g_many g_goesAt g_liftedForThese g_rowAt g_leastRowAt g_proof g_inRow g_frontGoesAt g_longestFrom g_leastLifted o_many o_aheadOf o_named o_ways s0_items s0_lost s0_form s0_size s1_items s1_lost s1_form s1_size s2_items s2_lost s2_form s2_size s3_items s3_lost s3_form s3_size latestFinding hw hT hO hS hF
  subst hw
  exact ⟨_, rfl⟩
theorem C6_fst {c0 : Nat → ClassId} {ad : Nat → Nat} {w : va_W} {n : Nat → Nat} {β tr : Nat → Nat → Nat} {st : Nat → Nat} {h : Nat} {ea eb : Nat → Nat} {lo : Nat → Bool} {fo si : Nat → Nat} {it : Nat → Nat → Int32} {fd : Int32} (hC : C6 c0 ad w n β tr st h ea eb lo fo si it fd) : w.map Prod.fst = (List.range 41).map ad := by
  refine hC _ ?_
  intro t0_bytes t0_size t0_faultAt t0_known t0_bits t1_bytes t1_size t1_faultAt t1_known t1_bits t2_bytes t2_size t2_faultAt t2_known t2_bits tr0 tr1 tr2 settings h_inRow h_inFrontOf h_liftedFor h_takers h_takerCount h_laid h_judgedGuest h_liftedInAll cr_outs cr_entered cr_room cr_latestEntry g_many g_goesAt g_liftedForThese g_rowAt g_leastRowAt g_proof g_inRow g_frontGoesAt g_longestFrom g_leastLifted o_many o_aheadOf o_named o_ways s0_items s0_lost s0_form s0_size s1_items s1_lost s1_form s1_size s2_items s2_lost s2_form s2_size s3_items s3_lost s3_form s3_size latestFinding hw hT hO hS hF
  subst hw
  rfl
theorem C7_hd {c0 : Nat → ClassId} {ad : Nat → Nat} {w : va_W} {n : Nat → Nat} {β tr : Nat → Nat → Nat} {st : Nat → Nat} {h : Nat} {ea eb : Nat → Nat} {lo : Nat → Bool} {fo si : Nat → Nat} {it : Nat → Nat → Int32} {fd : Int32} (hC : C7 c0 ad w n β tr st h ea eb lo fo si it fd) : ∃ fs, w[0]? = some (ad 0, .inr (7, fs)) := by
  refine hC _ ?_
  intro typed texts comes coming came goes going wears worn rowOf looks minutes deep room look lift laid judgedNow manyIn goers goer liftedFor whens fronts laidTo chains outs aheads aheadOne aheadOther orders isThere forms sizes items moved finding hw hT hO hS hF
  subst hw
  exact ⟨_, rfl⟩
theorem C7_fst {c0 : Nat → ClassId} {ad : Nat → Nat} {w : va_W} {n : Nat → Nat} {β tr : Nat → Nat → Nat} {st : Nat → Nat} {h : Nat} {ea eb : Nat → Nat} {lo : Nat → Bool} {fo si : Nat → Nat} {it : Nat → Nat → Int32} {fd : Int32} (hC : C7 c0 ad w n β tr st h ea eb lo fo si it fd) : w.map Prod.fst = (List.range 25).map ad := by
  refine hC _ ?_
  intro typed texts comes coming came goes going wears worn rowOf looks minutes deep room look lift laid judgedNow manyIn goers goer liftedFor whens fronts laidTo chains outs aheads aheadOne aheadOther orders isThere forms sizes items moved finding hw hT hO hS hF
  subst hw
  rfl
theorem cmp_self (x : Int64) : lg_cmp x x = 0 := by simp [lg_cmp]
def lvL (b x y : Nat) (i : Int32) : List (Nat × Value) := [(0, .ref b), (1, .ref x), (2, .ref y), (3, .int i)]
def LI (l : Launch) (D : va_G) (K : KT) (c0 : Nat → ClassId) (b : Nat) (a6 a7 : Nat → Nat) (ce sl : Nat) (i : Int32) (pc : Nat) : Prop := ∀ (w6 w7 : va_W) (n : Nat → Nat) (β tr : Nat → Nat → Nat) (st : Nat → Nat) (h : Nat) (ea eb : Nat → Nat) (lo : Nat → Bool) (fo si : Nat → Nat) (it : Nat → Nat → Int32) (fd : Int32), C6 c0 a6 w6 n β tr st h ea eb lo fo si it fd → C7 c0 a7 w7 n β tr st h ea eb lo fo si it fd → WA l D K 4 pc (lvL b (a6 0) (a7 0) i) [] (w6 ++ w7) ce sl
def InL (L : Nat) (i : Int32) : Prop := vp_in i L ∧ vp_in (i + 1) L ∧ vp_in (i + 2) L ∧ vp_in (i + 3) L ∧ vp_in (i + 4) L ∧ vp_in (i + 5) L
theorem lc_type {l : Launch} {D : va_G} {c0 : Nat → ClassId} {K : KT} {b L ce sl : Nat} {xs : Nat → Int32} {a6 a7 : Nat → Nat} {i : Int32} (hOK : OKc D c0 K R_law code 4 room_1) (hX : XK K b L xs) (hZ : SK K) (hce : ce ≤ room_1.cells) (hsl : sl ≤ room_1.slots) (hI : InL L i) (kk : LI l D K c0 b a6 a7 ce sl i 1236) : LI l D K c0 b a6 a7 ce sl i 192 := by
  intro w6 w7 n β tr st h ea eb lo fo si it fd h6 h7
  obtain ⟨w6', k6, g6⟩ := s6_type (N := 2201) l D (by omega) h6 (xs (i + 1).toNatClampNeg) (xs (i + 2).toNatClampNeg)
  obtain ⟨w7', k7, g7⟩ := s7_type (N := 2201) l D (by omega) h7 (xs (i + 1).toNatClampNeg) (xs (i + 2).toNatClampNeg)
  obtain ⟨f6, e6⟩ := C6_hd h6
  obtain ⟨f7, e7⟩ := C7_hd h7
  refine q_aload_n hOK 1 dL_law_192 rfl rfl rfl ?_
  refine q_arg hOK hX (v := 1) hI.2.1 rfl rfl rfl dL_law_193 dL_law_194 dL_law_195 dL_law_196 dL_law_197 rfl ?_
  refine q_arg hOK hX (v := 2) hI.2.2.1 rfl rfl rfl dL_law_198 dL_law_199 dL_law_200 dL_law_201 dL_law_202 rfl ?_
  refine q_callL hOK (st := []) (st1 := [.int _]) lmi6_type lmv6_type lml6_type k6 e6 rfl rfl ((C6_fst g6).trans (C6_fst h6).symm) rfl ⟨rfl, rfl, Nat.le_of_ble_eq_true rfl, Nat.le_of_ble_eq_true rfl⟩ rfl rfl (Nat.le_of_ble_eq_true rfl) hce hsl dL_law_203 rfl ?_
  refine q_aload_n hOK 2 dL_law_206 rfl rfl rfl ?_
  refine q_arg hOK hX (v := 1) hI.2.1 rfl rfl rfl dL_law_207 dL_law_208 dL_law_209 dL_law_210 dL_law_211 rfl ?_
  refine q_arg hOK hX (v := 2) hI.2.2.1 rfl rfl rfl dL_law_212 dL_law_213 dL_law_214 dL_law_215 dL_law_216 rfl ?_
  refine q_callR hOK (st1 := [.int _, .int _]) (st := [.int _]) lmi7_type lmv7_type lml7_type k7 e7 rfl rfl ((C7_fst g7).trans (C7_fst h7).symm) rfl ⟨rfl, rfl, Nat.le_of_ble_eq_true rfl, Nat.le_of_ble_eq_true rfl⟩ rfl rfl (Nat.le_of_ble_eq_true rfl) hce hsl dL_law_217 rfl ?_
  exact q_icmp_eq hOK 1236 dL_law_220 rfl rfl (fun _ => kk _ _ _ _ _ _ _ _ _ _ _ _ _ _ g6 g7) (fun z => absurd rfl z)
theorem lc_wipe {l : Launch} {D : va_G} {c0 : Nat → ClassId} {K : KT} {b L ce sl : Nat} {xs : Nat → Int32} {a6 a7 : Nat → Nat} {i : Int32} (hOK : OKc D c0 K R_law code 4 room_1) (hX : XK K b L xs) (hZ : SK K) (hce : ce ≤ room_1.cells) (hsl : sl ≤ room_1.slots) (hI : InL L i) (kk : LI l D K c0 b a6 a7 ce sl i 1236) : LI l D K c0 b a6 a7 ce sl i 225 := by
  intro w6 w7 n β tr st h ea eb lo fo si it fd h6 h7
  obtain ⟨w6', k6, g6⟩ := s6_wipe (N := 2201) l D (by omega) h6 (xs (i + 1).toNatClampNeg)
  obtain ⟨w7', k7, g7⟩ := s7_wipe (N := 2201) l D (by omega) h7 (xs (i + 1).toNatClampNeg)
  obtain ⟨f6, e6⟩ := C6_hd h6
  obtain ⟨f7, e7⟩ := C7_hd h7
  refine q_aload_n hOK 1 dL_law_225 rfl rfl rfl ?_
  refine q_arg hOK hX (v := 1) hI.2.1 rfl rfl rfl dL_law_226 dL_law_227 dL_law_228 dL_law_229 dL_law_230 rfl ?_
  refine q_callL hOK (st := []) (st1 := [.int _]) lmi6_wipe lmv6_wipe lml6_wipe k6 e6 rfl rfl ((C6_fst g6).trans (C6_fst h6).symm) rfl ⟨rfl, rfl, Nat.le_of_ble_eq_true rfl, Nat.le_of_ble_eq_true rfl⟩ rfl rfl (Nat.le_of_ble_eq_true rfl) hce hsl dL_law_231 rfl ?_
  refine q_aload_n hOK 2 dL_law_234 rfl rfl rfl ?_
  refine q_arg hOK hX (v := 1) hI.2.1 rfl rfl rfl dL_law_235 dL_law_236 dL_law_237 dL_law_238 dL_law_239 rfl ?_
  refine q_callR hOK (st1 := [.int _, .int _]) (st := [.int _]) lmi7_wipe lmv7_wipe lml7_wipe k7 e7 rfl rfl ((C7_fst g7).trans (C7_fst h7).symm) rfl ⟨rfl, rfl, Nat.le_of_ble_eq_true rfl, Nat.le_of_ble_eq_true rfl⟩ rfl rfl (Nat.le_of_ble_eq_true rfl) hce hsl dL_law_240 rfl ?_
  exact q_icmp_eq hOK 1236 dL_law_243 rfl rfl (fun _ => kk _ _ _ _ _ _ _ _ _ _ _ _ _ _ g6 g7) (fun z => absurd rfl z)
theorem lc_undo {l : Launch} {D : va_G} {c0 : Nat → ClassId} {K : KT} {b L ce sl : Nat} {xs : Nat → Int32} {a6 a7 : Nat → Nat} {i : Int32} (hOK : OKc D c0 K R_law code 4 room_1) (hX : XK K b L xs) (hZ : SK K) (hce : ce ≤ room_1.cells) (hsl : sl ≤ room_1.slots) (hI : InL L i) (kk : LI l D K c0 b a6 a7 ce sl i 1236) : LI l D K c0 b a6 a7 ce sl i 248 := by
  intro w6 w7 n β tr st h ea eb lo fo si it fd h6 h7
  obtain ⟨w6', k6, g6⟩ := s6_undo (N := 2201) l D (by omega) h6 (xs (i + 1).toNatClampNeg)
  obtain ⟨w7', k7, g7⟩ := s7_undo (N := 2201) l D (by omega) h7 (xs (i + 1).toNatClampNeg)
  obtain ⟨f6, e6⟩ := C6_hd h6
  obtain ⟨f7, e7⟩ := C7_hd h7
  refine q_aload_n hOK 1 dL_law_248 rfl rfl rfl ?_
  refine q_arg hOK hX (v := 1) hI.2.1 rfl rfl rfl dL_law_249 dL_law_250 dL_law_251 dL_law_252 dL_law_253 rfl ?_
  refine q_callL hOK (st := []) (st1 := [.int _]) lmi6_undo lmv6_undo lml6_undo k6 e6 rfl rfl ((C6_fst g6).trans (C6_fst h6).symm) rfl ⟨rfl, rfl, Nat.le_of_ble_eq_true rfl, Nat.le_of_ble_eq_true rfl⟩ rfl rfl (Nat.le_of_ble_eq_true rfl) hce hsl dL_law_254 rfl ?_
  refine q_aload_n hOK 2 dL_law_257 rfl rfl rfl ?_
  refine q_arg hOK hX (v := 1) hI.2.1 rfl rfl rfl dL_law_258 dL_law_259 dL_law_260 dL_law_261 dL_law_262 rfl ?_
  refine q_callR hOK (st1 := [.int _, .int _]) (st := [.int _]) lmi7_undo lmv7_undo lml7_undo k7 e7 rfl rfl ((C7_fst g7).trans (C7_fst h7).symm) rfl ⟨rfl, rfl, Nat.le_of_ble_eq_true rfl, Nat.le_of_ble_eq_true rfl⟩ rfl rfl (Nat.le_of_ble_eq_true rfl) hce hsl dL_law_263 rfl ?_
  exact q_icmp_eq hOK 1236 dL_law_266 rfl rfl (fun _ => kk _ _ _ _ _ _ _ _ _ _ _ _ _ _ g6 g7) (fun z => absurd rfl z)
theorem lc_fault {l : Launch} {D : va_G} {c0 : Nat → ClassId} {K : KT} {b L ce sl : Nat} {xs : Nat → Int32} {a6 a7 : Nat → Nat} {i : Int32} (hOK : OKc D c0 K R_law code 4 room_1) (hX : XK K b L xs) (hZ : SK K) (hce : ce ≤ room_1.cells) (hsl : sl ≤ room_1.slots) (hI : InL L i) (kk : LI l D K c0 b a6 a7 ce sl i 1236) : LI l D K c0 b a6 a7 ce sl i 271 := by
  intro w6 w7 n β tr st h ea eb lo fo si it fd h6 h7
  obtain ⟨w6', k6, g6⟩ := s6_fault (N := 2201) l D (by omega) h6 (xs (i + 1).toNatClampNeg)
  obtain ⟨w7', k7, g7⟩ := s7_fault (N := 2201) l D (by omega) h7 (xs (i + 1).toNatClampNeg)
  obtain ⟨f6, e6⟩ := C6_hd h6
  obtain ⟨f7, e7⟩ := C7_hd h7
  refine q_aload_n hOK 1 dL_law_271 rfl rfl rfl ?_
  refine q_arg hOK hX (v := 1) hI.2.1 rfl rfl rfl dL_law_272 dL_law_273 dL_law_274 dL_law_275 dL_law_276 rfl ?_
  refine q_callL hOK (st := []) (st1 := [.int _]) lmi6_fault lmv6_fault lml6_fault k6 e6 rfl rfl ((C6_fst g6).trans (C6_fst h6).symm) rfl ⟨rfl, rfl, Nat.le_of_ble_eq_true rfl, Nat.le_of_ble_eq_true rfl⟩ rfl rfl (Nat.le_of_ble_eq_true rfl) hce hsl dL_law_277 rfl ?_
  refine q_aload_n hOK 2 dL_law_280 rfl rfl rfl ?_
  refine q_arg hOK hX (v := 1) hI.2.1 rfl rfl rfl dL_law_281 dL_law_282 dL_law_283 dL_law_284 dL_law_285 rfl ?_
  refine q_callR hOK (st1 := [.int _, .int _]) (st := [.int _]) lmi7_fault lmv7_fault lml7_fault k7 e7 rfl rfl ((C7_fst g7).trans (C7_fst h7).symm) rfl ⟨rfl, rfl, Nat.le_of_ble_eq_true rfl, Nat.le_of_ble_eq_true rfl⟩ rfl rfl (Nat.le_of_ble_eq_true rfl) hce hsl dL_law_286 rfl ?_
  exact q_icmp_eq hOK 1236 dL_law_289 rfl rfl (fun _ => kk _ _ _ _ _ _ _ _ _ _ _ _ _ _ g6 g7) (fun z => absurd rfl z)
theorem lc_guest {l : Launch} {D : va_G} {c0 : Nat → ClassId} {K : KT} {b L ce sl : Nat} {xs : Nat → Int32} {a6 a7 : Nat → Nat} {i : Int32} (hOK : OKc D c0 K R_law code 4 room_1) (hX : XK K b L xs) (hZ : SK K) (hce : ce ≤ room_1.cells) (hsl : sl ≤ room_1.slots) (hI : InL L i) (kk : LI l D K c0 b a6 a7 ce sl i 1236) : LI l D K c0 b a6 a7 ce sl i 294 := by
  intro w6 w7 n β tr st h ea eb lo fo si it fd h6 h7
  obtain ⟨w6', k6, g6⟩ := s6_guest (N := 2201) l D (by omega) h6 (xs (i + 1).toNatClampNeg) (xs (i + 2).toNatClampNeg) (xs (i + 3).toNatClampNeg)
  obtain ⟨w7', k7, g7⟩ := s7_guest (N := 2201) l D (by omega) h7 (xs (i + 1).toNatClampNeg) (xs (i + 2).toNatClampNeg) (xs (i + 3).toNatClampNeg)
  obtain ⟨f6, e6⟩ := C6_hd h6
  obtain ⟨f7, e7⟩ := C7_hd h7
  refine q_aload_n hOK 1 dL_law_294 rfl rfl rfl ?_
  refine q_arg hOK hX (v := 1) hI.2.1 rfl rfl rfl dL_law_295 dL_law_296 dL_law_297 dL_law_298 dL_law_299 rfl ?_
  refine q_arg hOK hX (v := 2) hI.2.2.1 rfl rfl rfl dL_law_300 dL_law_301 dL_law_302 dL_law_303 dL_law_304 rfl ?_
  refine q_arg hOK hX (v := 3) hI.2.2.2.1 rfl rfl rfl dL_law_305 dL_law_306 dL_law_307 dL_law_308 dL_law_309 rfl ?_
  refine q_callLS hOK hZ (st := []) (st1 := [.int _]) lmi6_guest lmv6_guest lml6_guest k6 e6 rfl rfl ((C6_fst g6).trans (C6_fst h6).symm) rfl ⟨rfl, rfl, Nat.le_of_ble_eq_true rfl, Nat.le_of_ble_eq_true rfl⟩ rfl rfl (Nat.le_of_ble_eq_true rfl) hce hsl dL_law_310 rfl ?_
  refine q_aload_n hOK 2 dL_law_313 rfl rfl rfl ?_
  refine q_arg hOK hX (v := 1) hI.2.1 rfl rfl rfl dL_law_314 dL_law_315 dL_law_316 dL_law_317 dL_law_318 rfl ?_
  refine q_arg hOK hX (v := 2) hI.2.2.1 rfl rfl rfl dL_law_319 dL_law_320 dL_law_321 dL_law_322 dL_law_323 rfl ?_
  refine q_arg hOK hX (v := 3) hI.2.2.2.1 rfl rfl rfl dL_law_324 dL_law_325 dL_law_326 dL_law_327 dL_law_328 rfl ?_
  refine q_callR hOK (st1 := [.int _, .int _]) (st := [.int _]) lmi7_guest lmv7_guest lml7_guest k7 e7 rfl rfl ((C7_fst g7).trans (C7_fst h7).symm) rfl ⟨rfl, rfl, Nat.le_of_ble_eq_true rfl, Nat.le_of_ble_eq_true rfl⟩ rfl rfl (Nat.le_of_ble_eq_true rfl) hce hsl dL_law_329 rfl ?_
  exact q_icmp_eq hOK 1236 dL_law_332 rfl rfl (fun _ => kk _ _ _ _ _ _ _ _ _ _ _ _ _ _ g6 g7) (fun z => absurd rfl z)
theorem lc_set {l : Launch} {D : va_G} {c0 : Nat → ClassId} {K : KT} {b L ce sl : Nat} {xs : Nat → Int32} {a6 a7 : Nat → Nat} {i : Int32} (hOK : OKc D c0 K R_law code 4 room_1) (hX : XK K b L xs) (hZ : SK K) (hce : ce ≤ room_1.cells) (hsl : sl ≤ room_1.slots) (hI : InL L i) (kk : LI l D K c0 b a6 a7 ce sl i 1236) : LI l D K c0 b a6 a7 ce sl i 337 := by
  intro w6 w7 n β tr st h ea eb lo fo si it fd h6 h7
  obtain ⟨w6', k6, g6⟩ := s6_set (N := 2201) l D (by omega) h6 (xs (i + 1).toNatClampNeg) (xs (i + 2).toNatClampNeg)
  obtain ⟨w7', k7, g7⟩ := s7_set (N := 2201) l D (by omega) h7 (xs (i + 1).toNatClampNeg) (xs (i + 2).toNatClampNeg)
  obtain ⟨f6, e6⟩ := C6_hd h6
  obtain ⟨f7, e7⟩ := C7_hd h7
  refine q_aload_n hOK 1 dL_law_337 rfl rfl rfl ?_
  refine q_arg hOK hX (v := 1) hI.2.1 rfl rfl rfl dL_law_338 dL_law_339 dL_law_340 dL_law_341 dL_law_342 rfl ?_
  refine q_arg hOK hX (v := 2) hI.2.2.1 rfl rfl rfl dL_law_343 dL_law_344 dL_law_345 dL_law_346 dL_law_347 rfl ?_
  refine q_callLS hOK hZ (st := []) (st1 := [.int _]) lmi6_set lmv6_set lml6_set k6 e6 rfl rfl ((C6_fst g6).trans (C6_fst h6).symm) rfl ⟨rfl, rfl, Nat.le_of_ble_eq_true rfl, Nat.le_of_ble_eq_true rfl⟩ rfl rfl (Nat.le_of_ble_eq_true rfl) hce hsl dL_law_348 rfl ?_
  refine q_aload_n hOK 2 dL_law_351 rfl rfl rfl ?_
  refine q_arg hOK hX (v := 1) hI.2.1 rfl rfl rfl dL_law_352 dL_law_353 dL_law_354 dL_law_355 dL_law_356 rfl ?_
  refine q_arg hOK hX (v := 2) hI.2.2.1 rfl rfl rfl dL_law_357 dL_law_358 dL_law_359 dL_law_360 dL_law_361 rfl ?_
  refine q_callR hOK (st1 := [.int _, .int _]) (st := [.int _]) lmi7_set lmv7_set lml7_set k7 e7 rfl rfl ((C7_fst g7).trans (C7_fst h7).symm) rfl ⟨rfl, rfl, Nat.le_of_ble_eq_true rfl, Nat.le_of_ble_eq_true rfl⟩ rfl rfl (Nat.le_of_ble_eq_true rfl) hce hsl dL_law_362 rfl ?_
  exact q_icmp_eq hOK 1236 dL_law_365 rfl rfl (fun _ => kk _ _ _ _ _ _ _ _ _ _ _ _ _ _ g6 g7) (fun z => absurd rfl z)
theorem lc_read {l : Launch} {D : va_G} {c0 : Nat → ClassId} {K : KT} {b L ce sl : Nat} {xs : Nat → Int32} {a6 a7 : Nat → Nat} {i : Int32} (hOK : OKc D c0 K R_law code 4 room_1) (hX : XK K b L xs) (hZ : SK K) (hce : ce ≤ room_1.cells) (hsl : sl ≤ room_1.slots) (hI : InL L i) (kk : LI l D K c0 b a6 a7 ce sl i 1236) : LI l D K c0 b a6 a7 ce sl i 370 := by
  intro w6 w7 n β tr st h ea eb lo fo si it fd h6 h7
  obtain ⟨w6', k6, g6⟩ := s6_read (N := 2201) l D (by omega) h6 (xs (i + 1).toNatClampNeg)
  obtain ⟨w7', k7, g7⟩ := s7_read (N := 2201) l D (by omega) h7 (xs (i + 1).toNatClampNeg)
  obtain ⟨f6, e6⟩ := C6_hd h6
  obtain ⟨f7, e7⟩ := C7_hd h7
  refine q_aload_n hOK 1 dL_law_370 rfl rfl rfl ?_
  refine q_arg hOK hX (v := 1) hI.2.1 rfl rfl rfl dL_law_371 dL_law_372 dL_law_373 dL_law_374 dL_law_375 rfl ?_
  refine q_callLS hOK hZ (st := []) (st1 := [.int _]) lmi6_read lmv6_read lml6_read k6 e6 rfl rfl ((C6_fst g6).trans (C6_fst h6).symm) rfl ⟨rfl, rfl, Nat.le_of_ble_eq_true rfl, Nat.le_of_ble_eq_true rfl⟩ rfl rfl (Nat.le_of_ble_eq_true rfl) hce hsl dL_law_376 rfl ?_
  refine q_aload_n hOK 2 dL_law_379 rfl rfl rfl ?_
  refine q_arg hOK hX (v := 1) hI.2.1 rfl rfl rfl dL_law_380 dL_law_381 dL_law_382 dL_law_383 dL_law_384 rfl ?_
  refine q_callR hOK (st1 := [.int _, .int _]) (st := [.int _]) lmi7_read lmv7_read lml7_read k7 e7 rfl rfl ((C7_fst g7).trans (C7_fst h7).symm) rfl ⟨rfl, rfl, Nat.le_of_ble_eq_true rfl, Nat.le_of_ble_eq_true rfl⟩ rfl rfl (Nat.le_of_ble_eq_true rfl) hce hsl dL_law_385 rfl ?_
  exact q_icmp_eq hOK 1236 dL_law_388 rfl rfl (fun _ => kk _ _ _ _ _ _ _ _ _ _ _ _ _ _ g6 g7) (fun z => absurd rfl z)
theorem lc_judged {l : Launch} {D : va_G} {c0 : Nat → ClassId} {K : KT} {b L ce sl : Nat} {xs : Nat → Int32} {a6 a7 : Nat → Nat} {i : Int32} (hOK : OKc D c0 K R_law code 4 room_1) (hX : XK K b L xs) (hZ : SK K) (hce : ce ≤ room_1.cells) (hsl : sl ≤ room_1.slots) (hI : InL L i) (kk : LI l D K c0 b a6 a7 ce sl i 1236) : LI l D K c0 b a6 a7 ce sl i 393 := by
  intro w6 w7 n β tr st h ea eb lo fo si it fd h6 h7
  obtain ⟨w6', k6, g6⟩ := s6_judged (N := 2201) l D (by omega) h6 
  obtain ⟨w7', k7, g7⟩ := s7_judged (N := 2201) l D (by omega) h7 
  obtain ⟨f6, e6⟩ := C6_hd h6
  obtain ⟨f7, e7⟩ := C7_hd h7
  refine q_aload_n hOK 1 dL_law_393 rfl rfl rfl ?_
  refine q_callL hOK (st := []) (st1 := [.int _]) lmi6_judged lmv6_judged lml6_judged k6 e6 rfl rfl ((C6_fst g6).trans (C6_fst h6).symm) rfl ⟨rfl, rfl, Nat.le_of_ble_eq_true rfl, Nat.le_of_ble_eq_true rfl⟩ rfl rfl (Nat.le_of_ble_eq_true rfl) hce hsl dL_law_394 rfl ?_
  refine q_aload_n hOK 2 dL_law_397 rfl rfl rfl ?_
  refine q_callR hOK (st1 := [.int _, .int _]) (st := [.int _]) lmi7_judged lmv7_judged lml7_judged k7 e7 rfl rfl ((C7_fst g7).trans (C7_fst h7).symm) rfl ⟨rfl, rfl, Nat.le_of_ble_eq_true rfl, Nat.le_of_ble_eq_true rfl⟩ rfl rfl (Nat.le_of_ble_eq_true rfl) hce hsl dL_law_398 rfl ?_
  exact q_icmp_eq hOK 1236 dL_law_401 rfl rfl (fun _ => kk _ _ _ _ _ _ _ _ _ _ _ _ _ _ g6 g7) (fun z => absurd rfl z)
theorem lc_lies {l : Launch} {D : va_G} {c0 : Nat → ClassId} {K : KT} {b L ce sl : Nat} {xs : Nat → Int32} {a6 a7 : Nat → Nat} {i : Int32} (hOK : OKc D c0 K R_law code 4 room_1) (hX : XK K b L xs) (hZ : SK K) (hce : ce ≤ room_1.cells) (hsl : sl ≤ room_1.slots) (hI : InL L i) (kk : LI l D K c0 b a6 a7 ce sl i 1236) : LI l D K c0 b a6 a7 ce sl i 406 := by
  intro w6 w7 n β tr st h ea eb lo fo si it fd h6 h7
  obtain ⟨w6', k6, g6⟩ := s6_lies (N := 2201) l D (by omega) h6 (xs (i + 1).toNatClampNeg) (xs (i + 2).toNatClampNeg) (xs (i + 3).toNatClampNeg)
  obtain ⟨w7', k7, g7⟩ := s7_lies (N := 2201) l D (by omega) h7 (xs (i + 1).toNatClampNeg) (xs (i + 2).toNatClampNeg) (xs (i + 3).toNatClampNeg)
  obtain ⟨f6, e6⟩ := C6_hd h6
  obtain ⟨f7, e7⟩ := C7_hd h7
  refine q_aload_n hOK 1 dL_law_406 rfl rfl rfl ?_
  refine q_arg hOK hX (v := 1) hI.2.1 rfl rfl rfl dL_law_407 dL_law_408 dL_law_409 dL_law_410 dL_law_411 rfl ?_
  refine q_arg hOK hX (v := 2) hI.2.2.1 rfl rfl rfl dL_law_412 dL_law_413 dL_law_414 dL_law_415 dL_law_416 rfl ?_
  refine q_arg hOK hX (v := 3) hI.2.2.2.1 rfl rfl rfl dL_law_417 dL_law_418 dL_law_419 dL_law_420 dL_law_421 rfl ?_
  refine q_callL hOK (st := []) (st1 := [.int _]) lmi6_lies lmv6_lies lml6_lies k6 e6 rfl rfl ((C6_fst g6).trans (C6_fst h6).symm) rfl ⟨rfl, rfl, Nat.le_of_ble_eq_true rfl, Nat.le_of_ble_eq_true rfl⟩ rfl rfl (Nat.le_of_ble_eq_true rfl) hce hsl dL_law_422 rfl ?_
  refine q_aload_n hOK 2 dL_law_425 rfl rfl rfl ?_
  refine q_arg hOK hX (v := 1) hI.2.1 rfl rfl rfl dL_law_426 dL_law_427 dL_law_428 dL_law_429 dL_law_430 rfl ?_
  refine q_arg hOK hX (v := 2) hI.2.2.1 rfl rfl rfl dL_law_431 dL_law_432 dL_law_433 dL_law_434 dL_law_435 rfl ?_
  refine q_arg hOK hX (v := 3) hI.2.2.2.1 rfl rfl rfl dL_law_436 dL_law_437 dL_law_438 dL_law_439 dL_law_440 rfl ?_
  refine q_callR hOK (st1 := [.int _, .int _]) (st := [.int _]) lmi7_lies lmv7_lies lml7_lies k7 e7 rfl rfl ((C7_fst g7).trans (C7_fst h7).symm) rfl ⟨rfl, rfl, Nat.le_of_ble_eq_true rfl, Nat.le_of_ble_eq_true rfl⟩ rfl rfl (Nat.le_of_ble_eq_true rfl) hce hsl dL_law_441 rfl ?_
  exact q_icmp_eq hOK 1236 dL_law_444 rfl rfl (fun _ => kk _ _ _ _ _ _ _ _ _ _ _ _ _ _ g6 g7) (fun z => absurd rfl z)
theorem lc_lifted {l : Launch} {D : va_G} {c0 : Nat → ClassId} {K : KT} {b L ce sl : Nat} {xs : Nat → Int32} {a6 a7 : Nat → Nat} {i : Int32} (hOK : OKc D c0 K R_law code 4 room_1) (hX : XK K b L xs) (hZ : SK K) (hce : ce ≤ room_1.cells) (hsl : sl ≤ room_1.slots) (hI : InL L i) (kk : LI l D K c0 b a6 a7 ce sl i 1236) : LI l D K c0 b a6 a7 ce sl i 449 := by
  intro w6 w7 n β tr st h ea eb lo fo si it fd h6 h7
  obtain ⟨w6', k6, g6⟩ := s6_lifted (N := 2201) l D (by omega) h6 (xs (i + 1).toNatClampNeg)
  obtain ⟨w7', k7, g7⟩ := s7_lifted (N := 2201) l D (by omega) h7 (xs (i + 1).toNatClampNeg)
  obtain ⟨f6, e6⟩ := C6_hd h6
  obtain ⟨f7, e7⟩ := C7_hd h7
  refine q_aload_n hOK 1 dL_law_449 rfl rfl rfl ?_
  refine q_arg hOK hX (v := 1) hI.2.1 rfl rfl rfl dL_law_450 dL_law_451 dL_law_452 dL_law_453 dL_law_454 rfl ?_
  refine q_callL hOK (st := []) (st1 := [.int _]) lmi6_lifted lmv6_lifted lml6_lifted k6 e6 rfl rfl ((C6_fst g6).trans (C6_fst h6).symm) rfl ⟨rfl, rfl, Nat.le_of_ble_eq_true rfl, Nat.le_of_ble_eq_true rfl⟩ rfl rfl (Nat.le_of_ble_eq_true rfl) hce hsl dL_law_455 rfl ?_
  refine q_aload_n hOK 2 dL_law_458 rfl rfl rfl ?_
  refine q_arg hOK hX (v := 1) hI.2.1 rfl rfl rfl dL_law_459 dL_law_460 dL_law_461 dL_law_462 dL_law_463 rfl ?_
  refine q_callR hOK (st1 := [.int _, .int _]) (st := [.int _]) lmi7_lifted lmv7_lifted lml7_lifted k7 e7 rfl rfl ((C7_fst g7).trans (C7_fst h7).symm) rfl ⟨rfl, rfl, Nat.le_of_ble_eq_true rfl, Nat.le_of_ble_eq_true rfl⟩ rfl rfl (Nat.le_of_ble_eq_true rfl) hce hsl dL_law_464 rfl ?_
  exact q_icmp_eq hOK 1236 dL_law_467 rfl rfl (fun _ => kk _ _ _ _ _ _ _ _ _ _ _ _ _ _ g6 g7) (fun z => absurd rfl z)
theorem lc_rows {l : Launch} {D : va_G} {c0 : Nat → ClassId} {K : KT} {b L ce sl : Nat} {xs : Nat → Int32} {a6 a7 : Nat → Nat} {i : Int32} (hOK : OKc D c0 K R_law code 4 room_1) (hX : XK K b L xs) (hZ : SK K) (hce : ce ≤ room_1.cells) (hsl : sl ≤ room_1.slots) (hI : InL L i) (kk : LI l D K c0 b a6 a7 ce sl i 1236) : LI l D K c0 b a6 a7 ce sl i 472 := by
  intro w6 w7 n β tr st h ea eb lo fo si it fd h6 h7
  obtain ⟨w6', k6, g6⟩ := s6_rows (N := 2201) l D (by omega) h6 (xs (i + 1).toNatClampNeg)
  obtain ⟨w7', k7, g7⟩ := s7_rows (N := 2201) l D (by omega) h7 (xs (i + 1).toNatClampNeg)
  obtain ⟨f6, e6⟩ := C6_hd h6
  obtain ⟨f7, e7⟩ := C7_hd h7
  refine q_aload_n hOK 1 dL_law_472 rfl rfl rfl ?_
  refine q_arg hOK hX (v := 1) hI.2.1 rfl rfl rfl dL_law_473 dL_law_474 dL_law_475 dL_law_476 dL_law_477 rfl ?_
  refine q_callL hOK (st := []) (st1 := [.int _]) lmi6_rows lmv6_rows lml6_rows k6 e6 rfl rfl ((C6_fst g6).trans (C6_fst h6).symm) rfl ⟨rfl, rfl, Nat.le_of_ble_eq_true rfl, Nat.le_of_ble_eq_true rfl⟩ rfl rfl (Nat.le_of_ble_eq_true rfl) hce hsl dL_law_478 rfl ?_
  refine q_aload_n hOK 2 dL_law_481 rfl rfl rfl ?_
  refine q_arg hOK hX (v := 1) hI.2.1 rfl rfl rfl dL_law_482 dL_law_483 dL_law_484 dL_law_485 dL_law_486 rfl ?_
  refine q_callR hOK (st1 := [.int _, .int _]) (st := [.int _]) lmi7_rows lmv7_rows lml7_rows k7 e7 rfl rfl ((C7_fst g7).trans (C7_fst h7).symm) rfl ⟨rfl, rfl, Nat.le_of_ble_eq_true rfl, Nat.le_of_ble_eq_true rfl⟩ rfl rfl (Nat.le_of_ble_eq_true rfl) hce hsl dL_law_487 rfl ?_
  exact q_icmp_eq hOK 1236 dL_law_490 rfl rfl (fun _ => kk _ _ _ _ _ _ _ _ _ _ _ _ _ _ g6 g7) (fun z => absurd rfl z)
theorem lc_proof {l : Launch} {D : va_G} {c0 : Nat → ClassId} {K : KT} {b L ce sl : Nat} {xs : Nat → Int32} {a6 a7 : Nat → Nat} {i : Int32} (hOK : OKc D c0 K R_law code 4 room_1) (hX : XK K b L xs) (hZ : SK K) (hce : ce ≤ room_1.cells) (hsl : sl ≤ room_1.slots) (hI : InL L i) (kk : LI l D K c0 b a6 a7 ce sl i 1236) : LI l D K c0 b a6 a7 ce sl i 495 := by
  intro w6 w7 n β tr st h ea eb lo fo si it fd h6 h7
  obtain ⟨w6', k6, g6⟩ := s6_proof (N := 2201) l D (by omega) h6 (xs (i + 1).toNatClampNeg)
  obtain ⟨w7', k7, g7⟩ := s7_proof (N := 2201) l D (by omega) h7 (xs (i + 1).toNatClampNeg)
  obtain ⟨f6, e6⟩ := C6_hd h6
  obtain ⟨f7, e7⟩ := C7_hd h7
  refine q_aload_n hOK 1 dL_law_495 rfl rfl rfl ?_
  refine q_arg hOK hX (v := 1) hI.2.1 rfl rfl rfl dL_law_496 dL_law_497 dL_law_498 dL_law_499 dL_law_500 rfl ?_
  refine q_callL hOK (st := []) (st1 := [.int _]) lmi6_proof lmv6_proof lml6_proof k6 e6 rfl rfl ((C6_fst g6).trans (C6_fst h6).symm) rfl ⟨rfl, rfl, Nat.le_of_ble_eq_true rfl, Nat.le_of_ble_eq_true rfl⟩ rfl rfl (Nat.le_of_ble_eq_true rfl) hce hsl dL_law_501 rfl ?_
  refine q_aload_n hOK 2 dL_law_504 rfl rfl rfl ?_
  refine q_arg hOK hX (v := 1) hI.2.1 rfl rfl rfl dL_law_505 dL_law_506 dL_law_507 dL_law_508 dL_law_509 rfl ?_
  refine q_callR hOK (st1 := [.int _, .int _]) (st := [.int _]) lmi7_proof lmv7_proof lml7_proof k7 e7 rfl rfl ((C7_fst g7).trans (C7_fst h7).symm) rfl ⟨rfl, rfl, Nat.le_of_ble_eq_true rfl, Nat.le_of_ble_eq_true rfl⟩ rfl rfl (Nat.le_of_ble_eq_true rfl) hce hsl dL_law_510 rfl ?_
  exact q_icmp_eq hOK 1236 dL_law_513 rfl rfl (fun _ => kk _ _ _ _ _ _ _ _ _ _ _ _ _ _ g6 g7) (fun z => absurd rfl z)
theorem lc_least {l : Launch} {D : va_G} {c0 : Nat → ClassId} {K : KT} {b L ce sl : Nat} {xs : Nat → Int32} {a6 a7 : Nat → Nat} {i : Int32} (hOK : OKc D c0 K R_law code 4 room_1) (hX : XK K b L xs) (hZ : SK K) (hce : ce ≤ room_1.cells) (hsl : sl ≤ room_1.slots) (hI : InL L i) (kk : LI l D K c0 b a6 a7 ce sl i 1236) : LI l D K c0 b a6 a7 ce sl i 518 := by
  intro w6 w7 n β tr st h ea eb lo fo si it fd h6 h7
  obtain ⟨w6', k6, g6⟩ := s6_least (N := 2201) l D (by omega) h6 (xs (i + 1).toNatClampNeg) (xs (i + 2).toNatClampNeg)
  obtain ⟨w7', k7, g7⟩ := s7_least (N := 2201) l D (by omega) h7 (xs (i + 1).toNatClampNeg) (xs (i + 2).toNatClampNeg)
  obtain ⟨f6, e6⟩ := C6_hd h6
  obtain ⟨f7, e7⟩ := C7_hd h7
  refine q_aload_n hOK 1 dL_law_518 rfl rfl rfl ?_
  refine q_arg hOK hX (v := 1) hI.2.1 rfl rfl rfl dL_law_519 dL_law_520 dL_law_521 dL_law_522 dL_law_523 rfl ?_
  refine q_arg hOK hX (v := 2) hI.2.2.1 rfl rfl rfl dL_law_524 dL_law_525 dL_law_526 dL_law_527 dL_law_528 rfl ?_
  refine q_callL hOK (st := []) (st1 := [.int _]) lmi6_least lmv6_least lml6_least k6 e6 rfl rfl ((C6_fst g6).trans (C6_fst h6).symm) rfl ⟨rfl, rfl, Nat.le_of_ble_eq_true rfl, Nat.le_of_ble_eq_true rfl⟩ rfl rfl (Nat.le_of_ble_eq_true rfl) hce hsl dL_law_529 rfl ?_
  refine q_aload_n hOK 2 dL_law_532 rfl rfl rfl ?_
  refine q_arg hOK hX (v := 1) hI.2.1 rfl rfl rfl dL_law_533 dL_law_534 dL_law_535 dL_law_536 dL_law_537 rfl ?_
  refine q_arg hOK hX (v := 2) hI.2.2.1 rfl rfl rfl dL_law_538 dL_law_539 dL_law_540 dL_law_541 dL_law_542 rfl ?_
  refine q_callR hOK (st1 := [.int _, .int _]) (st := [.int _]) lmi7_least lmv7_least lml7_least k7 e7 rfl rfl ((C7_fst g7).trans (C7_fst h7).symm) rfl ⟨rfl, rfl, Nat.le_of_ble_eq_true rfl, Nat.le_of_ble_eq_true rfl⟩ rfl rfl (Nat.le_of_ble_eq_true rfl) hce hsl dL_law_543 rfl ?_
  exact q_icmp_eq hOK 1236 dL_law_546 rfl rfl (fun _ => kk _ _ _ _ _ _ _ _ _ _ _ _ _ _ g6 g7) (fun z => absurd rfl z)
theorem lc_rule {l : Launch} {D : va_G} {c0 : Nat → ClassId} {K : KT} {b L ce sl : Nat} {xs : Nat → Int32} {a6 a7 : Nat → Nat} {i : Int32} (hOK : OKc D c0 K R_law code 4 room_1) (hX : XK K b L xs) (hZ : SK K) (hce : ce ≤ room_1.cells) (hsl : sl ≤ room_1.slots) (hI : InL L i) (kk : LI l D K c0 b a6 a7 ce sl i 1236) : LI l D K c0 b a6 a7 ce sl i 551 := by
  intro w6 w7 n β tr st h ea eb lo fo si it fd h6 h7
  obtain ⟨w6', k6, g6⟩ := s6_rule (N := 2201) l D (by omega) h6 (xs (i + 1).toNatClampNeg) (xs (i + 2).toNatClampNeg)
  obtain ⟨w7', k7, g7⟩ := s7_rule (N := 2201) l D (by omega) h7 (xs (i + 1).toNatClampNeg) (xs (i + 2).toNatClampNeg)
  obtain ⟨f6, e6⟩ := C6_hd h6
  obtain ⟨f7, e7⟩ := C7_hd h7
  refine q_aload_n hOK 1 dL_law_551 rfl rfl rfl ?_
  refine q_arg hOK hX (v := 1) hI.2.1 rfl rfl rfl dL_law_552 dL_law_553 dL_law_554 dL_law_555 dL_law_556 rfl ?_
  refine q_arg hOK hX (v := 2) hI.2.2.1 rfl rfl rfl dL_law_557 dL_law_558 dL_law_559 dL_law_560 dL_law_561 rfl ?_
  refine q_callL hOK (st := []) (st1 := [.int _]) lmi6_rule lmv6_rule lml6_rule k6 e6 rfl rfl ((C6_fst g6).trans (C6_fst h6).symm) rfl ⟨rfl, rfl, Nat.le_of_ble_eq_true rfl, Nat.le_of_ble_eq_true rfl⟩ rfl rfl (Nat.le_of_ble_eq_true rfl) hce hsl dL_law_562 rfl ?_
  refine q_aload_n hOK 2 dL_law_565 rfl rfl rfl ?_
  refine q_arg hOK hX (v := 1) hI.2.1 rfl rfl rfl dL_law_566 dL_law_567 dL_law_568 dL_law_569 dL_law_570 rfl ?_
  refine q_arg hOK hX (v := 2) hI.2.2.1 rfl rfl rfl dL_law_571 dL_law_572 dL_law_573 dL_law_574 dL_law_575 rfl ?_
  refine q_callR hOK (st1 := [.int _, .int _]) (st := [.int _]) lmi7_rule lmv7_rule lml7_rule k7 e7 rfl rfl ((C7_fst g7).trans (C7_fst h7).symm) rfl ⟨rfl, rfl, Nat.le_of_ble_eq_true rfl, Nat.le_of_ble_eq_true rfl⟩ rfl rfl (Nat.le_of_ble_eq_true rfl) hce hsl dL_law_576 rfl ?_
  exact q_icmp_eq hOK 1236 dL_law_579 rfl rfl (fun _ => kk _ _ _ _ _ _ _ _ _ _ _ _ _ _ g6 g7) (fun z => absurd rfl z)
theorem lc_best {l : Launch} {D : va_G} {c0 : Nat → ClassId} {K : KT} {b L ce sl : Nat} {xs : Nat → Int32} {a6 a7 : Nat → Nat} {i : Int32} (hOK : OKc D c0 K R_law code 4 room_1) (hX : XK K b L xs) (hZ : SK K) (hce : ce ≤ room_1.cells) (hsl : sl ≤ room_1.slots) (hI : InL L i) (kk : LI l D K c0 b a6 a7 ce sl i 1236) : LI l D K c0 b a6 a7 ce sl i 584 := by
  intro w6 w7 n β tr st h ea eb lo fo si it fd h6 h7
  obtain ⟨w6', k6, g6⟩ := s6_best (N := 2201) l D (by omega) h6 (xs (i + 1).toNatClampNeg)
  obtain ⟨w7', k7, g7⟩ := s7_best (N := 2201) l D (by omega) h7 (xs (i + 1).toNatClampNeg)
  obtain ⟨f6, e6⟩ := C6_hd h6
  obtain ⟨f7, e7⟩ := C7_hd h7
  refine q_aload_n hOK 1 dL_law_584 rfl rfl rfl ?_
  refine q_arg hOK hX (v := 1) hI.2.1 rfl rfl rfl dL_law_585 dL_law_586 dL_law_587 dL_law_588 dL_law_589 rfl ?_
  refine q_callL hOK (st := []) (st1 := [.int _]) lmi6_best lmv6_best lml6_best k6 e6 rfl rfl ((C6_fst g6).trans (C6_fst h6).symm) rfl ⟨rfl, rfl, Nat.le_of_ble_eq_true rfl, Nat.le_of_ble_eq_true rfl⟩ rfl rfl (Nat.le_of_ble_eq_true rfl) hce hsl dL_law_590 rfl ?_
  refine q_aload_n hOK 2 dL_law_593 rfl rfl rfl ?_
  refine q_arg hOK hX (v := 1) hI.2.1 rfl rfl rfl dL_law_594 dL_law_595 dL_law_596 dL_law_597 dL_law_598 rfl ?_
  refine q_callR hOK (st1 := [.int _, .int _]) (st := [.int _]) lmi7_best lmv7_best lml7_best k7 e7 rfl rfl ((C7_fst g7).trans (C7_fst h7).symm) rfl ⟨rfl, rfl, Nat.le_of_ble_eq_true rfl, Nat.le_of_ble_eq_true rfl⟩ rfl rfl (Nat.le_of_ble_eq_true rfl) hce hsl dL_law_599 rfl ?_
  exact q_icmp_eq hOK 1236 dL_law_602 rfl rfl (fun _ => kk _ _ _ _ _ _ _ _ _ _ _ _ _ _ g6 g7) (fun z => absurd rfl z)
theorem lc_gap {l : Launch} {D : va_G} {c0 : Nat → ClassId} {K : KT} {b L ce sl : Nat} {xs : Nat → Int32} {a6 a7 : Nat → Nat} {i : Int32} (hOK : OKc D c0 K R_law code 4 room_1) (hX : XK K b L xs) (hZ : SK K) (hce : ce ≤ room_1.cells) (hsl : sl ≤ room_1.slots) (hI : InL L i) (kk : LI l D K c0 b a6 a7 ce sl i 1236) : LI l D K c0 b a6 a7 ce sl i 607 := by
  intro w6 w7 n β tr st h ea eb lo fo si it fd h6 h7
  obtain ⟨w6', k6, g6⟩ := s6_gap (N := 2201) l D (by omega) h6 (xs (i + 1).toNatClampNeg)
  obtain ⟨w7', k7, g7⟩ := s7_gap (N := 2201) l D (by omega) h7 (xs (i + 1).toNatClampNeg)
  obtain ⟨f6, e6⟩ := C6_hd h6
  obtain ⟨f7, e7⟩ := C7_hd h7
  refine q_aload_n hOK 1 dL_law_607 rfl rfl rfl ?_
  refine q_arg hOK hX (v := 1) hI.2.1 rfl rfl rfl dL_law_608 dL_law_609 dL_law_610 dL_law_611 dL_law_612 rfl ?_
  refine q_callL hOK (st := []) (st1 := [.int _]) lmi6_gap lmv6_gap lml6_gap k6 e6 rfl rfl ((C6_fst g6).trans (C6_fst h6).symm) rfl ⟨rfl, rfl, Nat.le_of_ble_eq_true rfl, Nat.le_of_ble_eq_true rfl⟩ rfl rfl (Nat.le_of_ble_eq_true rfl) hce hsl dL_law_613 rfl ?_
  refine q_aload_n hOK 2 dL_law_616 rfl rfl rfl ?_
  refine q_arg hOK hX (v := 1) hI.2.1 rfl rfl rfl dL_law_617 dL_law_618 dL_law_619 dL_law_620 dL_law_621 rfl ?_
  refine q_callR hOK (st1 := [.int _, .int _]) (st := [.int _]) lmi7_gap lmv7_gap lml7_gap k7 e7 rfl rfl ((C7_fst g7).trans (C7_fst h7).symm) rfl ⟨rfl, rfl, Nat.le_of_ble_eq_true rfl, Nat.le_of_ble_eq_true rfl⟩ rfl rfl (Nat.le_of_ble_eq_true rfl) hce hsl dL_law_622 rfl ?_
  exact q_icmp_eq hOK 1236 dL_law_625 rfl rfl (fun _ => kk _ _ _ _ _ _ _ _ _ _ _ _ _ _ g6 g7) (fun z => absurd rfl z)
theorem lc_mean {l : Launch} {D : va_G} {c0 : Nat → ClassId} {K : KT} {b L ce sl : Nat} {xs : Nat → Int32} {a6 a7 : Nat → Nat} {i : Int32} (hOK : OKc D c0 K R_law code 4 room_1) (hX : XK K b L xs) (hZ : SK K) (hce : ce ≤ room_1.cells) (hsl : sl ≤ room_1.slots) (hI : InL L i) (kk : LI l D K c0 b a6 a7 ce sl i 1236) : LI l D K c0 b a6 a7 ce sl i 630 := by
  intro w6 w7 n β tr st h ea eb lo fo si it fd h6 h7
  obtain ⟨w6', k6, g6⟩ := s6_mean (N := 2201) l D (by omega) h6 (xs (i + 1).toNatClampNeg) (xs (i + 2).toNatClampNeg)
  obtain ⟨w7', k7, g7⟩ := s7_mean (N := 2201) l D (by omega) h7 (xs (i + 1).toNatClampNeg) (xs (i + 2).toNatClampNeg)
  obtain ⟨f6, e6⟩ := C6_hd h6
  obtain ⟨f7, e7⟩ := C7_hd h7
  refine q_aload_n hOK 1 dL_law_630 rfl rfl rfl ?_
  refine q_arg hOK hX (v := 1) hI.2.1 rfl rfl rfl dL_law_631 dL_law_632 dL_law_633 dL_law_634 dL_law_635 rfl ?_
  refine q_arg hOK hX (v := 2) hI.2.2.1 rfl rfl rfl dL_law_636 dL_law_637 dL_law_638 dL_law_639 dL_law_640 rfl ?_
  refine q_callL hOK (st := []) (st1 := [.long _]) lmi6_mean lmv6_mean lml6_mean k6 e6 rfl rfl ((C6_fst g6).trans (C6_fst h6).symm) rfl ⟨rfl, rfl, Nat.le_of_ble_eq_true rfl, Nat.le_of_ble_eq_true rfl⟩ rfl rfl (Nat.le_of_ble_eq_true rfl) hce hsl dL_law_641 rfl ?_
  refine q_aload_n hOK 2 dL_law_644 rfl rfl rfl ?_
  refine q_arg hOK hX (v := 1) hI.2.1 rfl rfl rfl dL_law_645 dL_law_646 dL_law_647 dL_law_648 dL_law_649 rfl ?_
  refine q_arg hOK hX (v := 2) hI.2.2.1 rfl rfl rfl dL_law_650 dL_law_651 dL_law_652 dL_law_653 dL_law_654 rfl ?_
  refine q_callR hOK (st1 := [.long _, .long _]) (st := [.long _]) lmi7_mean lmv7_mean lml7_mean k7 e7 rfl rfl ((C7_fst g7).trans (C7_fst h7).symm) rfl ⟨rfl, rfl, Nat.le_of_ble_eq_true rfl, Nat.le_of_ble_eq_true rfl⟩ rfl rfl (Nat.le_of_ble_eq_true rfl) hce hsl dL_law_655 rfl ?_
  refine q_lcmp hOK dL_law_658 rfl ?_
  exact q_if_eq hOK 1236 dL_law_659 rfl rfl (fun _ => kk _ _ _ _ _ _ _ _ _ _ _ _ _ _ g6 g7) (fun z => absurd (cmp_self _) z)
theorem lc_heap {l : Launch} {D : va_G} {c0 : Nat → ClassId} {K : KT} {b L ce sl : Nat} {xs : Nat → Int32} {a6 a7 : Nat → Nat} {i : Int32} (hOK : OKc D c0 K R_law code 4 room_1) (hX : XK K b L xs) (hZ : SK K) (hce : ce ≤ room_1.cells) (hsl : sl ≤ room_1.slots) (hI : InL L i) (kk : LI l D K c0 b a6 a7 ce sl i 1236) : LI l D K c0 b a6 a7 ce sl i 664 := by
  intro w6 w7 n β tr st h ea eb lo fo si it fd h6 h7
  obtain ⟨w6', k6, g6⟩ := s6_heap (N := 2201) l D (by omega) h6 (xs (i + 1).toNatClampNeg) (xs (i + 2).toNatClampNeg)
  obtain ⟨w7', k7, g7⟩ := s7_heap (N := 2201) l D (by omega) h7 (xs (i + 1).toNatClampNeg) (xs (i + 2).toNatClampNeg)
  obtain ⟨f6, e6⟩ := C6_hd h6
  obtain ⟨f7, e7⟩ := C7_hd h7
  refine q_aload_n hOK 1 dL_law_664 rfl rfl rfl ?_
  refine q_arg hOK hX (v := 1) hI.2.1 rfl rfl rfl dL_law_665 dL_law_666 dL_law_667 dL_law_668 dL_law_669 rfl ?_
  refine q_arg hOK hX (v := 2) hI.2.2.1 rfl rfl rfl dL_law_670 dL_law_671 dL_law_672 dL_law_673 dL_law_674 rfl ?_
  refine q_callL hOK (st := []) (st1 := [.long _]) lmi6_heap lmv6_heap lml6_heap k6 e6 rfl rfl ((C6_fst g6).trans (C6_fst h6).symm) rfl ⟨rfl, rfl, Nat.le_of_ble_eq_true rfl, Nat.le_of_ble_eq_true rfl⟩ rfl rfl (Nat.le_of_ble_eq_true rfl) hce hsl dL_law_675 rfl ?_
  refine q_aload_n hOK 2 dL_law_678 rfl rfl rfl ?_
  refine q_arg hOK hX (v := 1) hI.2.1 rfl rfl rfl dL_law_679 dL_law_680 dL_law_681 dL_law_682 dL_law_683 rfl ?_
  refine q_arg hOK hX (v := 2) hI.2.2.1 rfl rfl rfl dL_law_684 dL_law_685 dL_law_686 dL_law_687 dL_law_688 rfl ?_
  refine q_callR hOK (st1 := [.long _, .long _]) (st := [.long _]) lmi7_heap lmv7_heap lml7_heap k7 e7 rfl rfl ((C7_fst g7).trans (C7_fst h7).symm) rfl ⟨rfl, rfl, Nat.le_of_ble_eq_true rfl, Nat.le_of_ble_eq_true rfl⟩ rfl rfl (Nat.le_of_ble_eq_true rfl) hce hsl dL_law_689 rfl ?_
  refine q_lcmp hOK dL_law_692 rfl ?_
  exact q_if_eq hOK 1236 dL_law_693 rfl rfl (fun _ => kk _ _ _ _ _ _ _ _ _ _ _ _ _ _ g6 g7) (fun z => absurd (cmp_self _) z)
theorem lc_out {l : Launch} {D : va_G} {c0 : Nat → ClassId} {K : KT} {b L ce sl : Nat} {xs : Nat → Int32} {a6 a7 : Nat → Nat} {i : Int32} (hOK : OKc D c0 K R_law code 4 room_1) (hX : XK K b L xs) (hZ : SK K) (hce : ce ≤ room_1.cells) (hsl : sl ≤ room_1.slots) (hI : InL L i) (kk : LI l D K c0 b a6 a7 ce sl i 1236) : LI l D K c0 b a6 a7 ce sl i 698 := by
  intro w6 w7 n β tr st h ea eb lo fo si it fd h6 h7
  obtain ⟨w6', k6, g6⟩ := s6_out (N := 2201) l D (by omega) h6 (xs (i + 1).toNatClampNeg)
  obtain ⟨w7', k7, g7⟩ := s7_out (N := 2201) l D (by omega) h7 (xs (i + 1).toNatClampNeg)
  obtain ⟨f6, e6⟩ := C6_hd h6
  obtain ⟨f7, e7⟩ := C7_hd h7
  refine q_aload_n hOK 1 dL_law_698 rfl rfl rfl ?_
  refine q_arg hOK hX (v := 1) hI.2.1 rfl rfl rfl dL_law_699 dL_law_700 dL_law_701 dL_law_702 dL_law_703 rfl ?_
  refine q_callL hOK (st := []) (st1 := [.int _]) lmi6_out lmv6_out lml6_out k6 e6 rfl rfl ((C6_fst g6).trans (C6_fst h6).symm) rfl ⟨rfl, rfl, Nat.le_of_ble_eq_true rfl, Nat.le_of_ble_eq_true rfl⟩ rfl rfl (Nat.le_of_ble_eq_true rfl) hce hsl dL_law_704 rfl ?_
  refine q_aload_n hOK 2 dL_law_707 rfl rfl rfl ?_
  refine q_arg hOK hX (v := 1) hI.2.1 rfl rfl rfl dL_law_708 dL_law_709 dL_law_710 dL_law_711 dL_law_712 rfl ?_
  refine q_callR hOK (st1 := [.int _, .int _]) (st := [.int _]) lmi7_out lmv7_out lml7_out k7 e7 rfl rfl ((C7_fst g7).trans (C7_fst h7).symm) rfl ⟨rfl, rfl, Nat.le_of_ble_eq_true rfl, Nat.le_of_ble_eq_true rfl⟩ rfl rfl (Nat.le_of_ble_eq_true rfl) hce hsl dL_law_713 rfl ?_
  exact q_icmp_eq hOK 1236 dL_law_716 rfl rfl (fun _ => kk _ _ _ _ _ _ _ _ _ _ _ _ _ _ g6 g7) (fun z => absurd rfl z)
theorem lc_wrong {l : Launch} {D : va_G} {c0 : Nat → ClassId} {K : KT} {b L ce sl : Nat} {xs : Nat → Int32} {a6 a7 : Nat → Nat} {i : Int32} (hOK : OKc D c0 K R_law code 4 room_1) (hX : XK K b L xs) (hZ : SK K) (hce : ce ≤ room_1.cells) (hsl : sl ≤ room_1.slots) (hI : InL L i) (kk : LI l D K c0 b a6 a7 ce sl i 1236) : LI l D K c0 b a6 a7 ce sl i 721 := by
  intro w6 w7 n β tr st h ea eb lo fo si it fd h6 h7
  obtain ⟨w6', k6, g6⟩ := s6_wrong (N := 2201) l D (by omega) h6 (xs (i + 1).toNatClampNeg)
  obtain ⟨w7', k7, g7⟩ := s7_wrong (N := 2201) l D (by omega) h7 (xs (i + 1).toNatClampNeg)
  obtain ⟨f6, e6⟩ := C6_hd h6
  obtain ⟨f7, e7⟩ := C7_hd h7
  refine q_aload_n hOK 1 dL_law_721 rfl rfl rfl ?_
  refine q_arg hOK hX (v := 1) hI.2.1 rfl rfl rfl dL_law_722 dL_law_723 dL_law_724 dL_law_725 dL_law_726 rfl ?_
  refine q_callL hOK (st := []) (st1 := [.int _]) lmi6_wrong lmv6_wrong lml6_wrong k6 e6 rfl rfl ((C6_fst g6).trans (C6_fst h6).symm) rfl ⟨rfl, rfl, Nat.le_of_ble_eq_true rfl, Nat.le_of_ble_eq_true rfl⟩ rfl rfl (Nat.le_of_ble_eq_true rfl) hce hsl dL_law_727 rfl ?_
  refine q_aload_n hOK 2 dL_law_730 rfl rfl rfl ?_
  refine q_arg hOK hX (v := 1) hI.2.1 rfl rfl rfl dL_law_731 dL_law_732 dL_law_733 dL_law_734 dL_law_735 rfl ?_
  refine q_callR hOK (st1 := [.int _, .int _]) (st := [.int _]) lmi7_wrong lmv7_wrong lml7_wrong k7 e7 rfl rfl ((C7_fst g7).trans (C7_fst h7).symm) rfl ⟨rfl, rfl, Nat.le_of_ble_eq_true rfl, Nat.le_of_ble_eq_true rfl⟩ rfl rfl (Nat.le_of_ble_eq_true rfl) hce hsl dL_law_736 rfl ?_
  exact q_icmp_eq hOK 1236 dL_law_739 rfl rfl (fun _ => kk _ _ _ _ _ _ _ _ _ _ _ _ _ _ g6 g7) (fun z => absurd rfl z)
theorem lc_swaps {l : Launch} {D : va_G} {c0 : Nat → ClassId} {K : KT} {b L ce sl : Nat} {xs : Nat → Int32} {a6 a7 : Nat → Nat} {i : Int32} (hOK : OKc D c0 K R_law code 4 room_1) (hX : XK K b L xs) (hZ : SK K) (hce : ce ≤ room_1.cells) (hsl : sl ≤ room_1.slots) (hI : InL L i) (kk : LI l D K c0 b a6 a7 ce sl i 1236) : LI l D K c0 b a6 a7 ce sl i 744 := by
  intro w6 w7 n β tr st h ea eb lo fo si it fd h6 h7
  obtain ⟨w6', k6, g6⟩ := s6_swaps (N := 2201) l D (by omega) h6 
  obtain ⟨w7', k7, g7⟩ := s7_swaps (N := 2201) l D (by omega) h7 
  obtain ⟨f6, e6⟩ := C6_hd h6
  obtain ⟨f7, e7⟩ := C7_hd h7
  refine q_aload_n hOK 1 dL_law_744 rfl rfl rfl ?_
  refine q_callL hOK (st := []) (st1 := [.int _]) lmi6_swaps lmv6_swaps lml6_swaps k6 e6 rfl rfl ((C6_fst g6).trans (C6_fst h6).symm) rfl ⟨rfl, rfl, Nat.le_of_ble_eq_true rfl, Nat.le_of_ble_eq_true rfl⟩ rfl rfl (Nat.le_of_ble_eq_true rfl) hce hsl dL_law_745 rfl ?_
  refine q_aload_n hOK 2 dL_law_748 rfl rfl rfl ?_
  refine q_callR hOK (st1 := [.int _, .int _]) (st := [.int _]) lmi7_swaps lmv7_swaps lml7_swaps k7 e7 rfl rfl ((C7_fst g7).trans (C7_fst h7).symm) rfl ⟨rfl, rfl, Nat.le_of_ble_eq_true rfl, Nat.le_of_ble_eq_true rfl⟩ rfl rfl (Nat.le_of_ble_eq_true rfl) hce hsl dL_law_749 rfl ?_
  exact q_icmp_eq hOK 1236 dL_law_752 rfl rfl (fun _ => kk _ _ _ _ _ _ _ _ _ _ _ _ _ _ g6 g7) (fun z => absurd rfl z)
theorem lc_alike {l : Launch} {D : va_G} {c0 : Nat → ClassId} {K : KT} {b L ce sl : Nat} {xs : Nat → Int32} {a6 a7 : Nat → Nat} {i : Int32} (hOK : OKc D c0 K R_law code 4 room_1) (hX : XK K b L xs) (hZ : SK K) (hce : ce ≤ room_1.cells) (hsl : sl ≤ room_1.slots) (hI : InL L i) (kk : LI l D K c0 b a6 a7 ce sl i 1236) : LI l D K c0 b a6 a7 ce sl i 757 := by
  intro w6 w7 n β tr st h ea eb lo fo si it fd h6 h7
  obtain ⟨w6', k6, g6⟩ := s6_alike (N := 2201) l D (by omega) h6 (xs (i + 1).toNatClampNeg)
  obtain ⟨w7', k7, g7⟩ := s7_alike (N := 2201) l D (by omega) h7 (xs (i + 1).toNatClampNeg)
  obtain ⟨f6, e6⟩ := C6_hd h6
  obtain ⟨f7, e7⟩ := C7_hd h7
  refine q_aload_n hOK 1 dL_law_757 rfl rfl rfl ?_
  refine q_arg hOK hX (v := 1) hI.2.1 rfl rfl rfl dL_law_758 dL_law_759 dL_law_760 dL_law_761 dL_law_762 rfl ?_
  refine q_callL hOK (st := []) (st1 := [.long _]) lmi6_alike lmv6_alike lml6_alike k6 e6 rfl rfl ((C6_fst g6).trans (C6_fst h6).symm) rfl ⟨rfl, rfl, Nat.le_of_ble_eq_true rfl, Nat.le_of_ble_eq_true rfl⟩ rfl rfl (Nat.le_of_ble_eq_true rfl) hce hsl dL_law_763 rfl ?_
  refine q_aload_n hOK 2 dL_law_766 rfl rfl rfl ?_
  refine q_arg hOK hX (v := 1) hI.2.1 rfl rfl rfl dL_law_767 dL_law_768 dL_law_769 dL_law_770 dL_law_771 rfl ?_
  refine q_callR hOK (st1 := [.long _, .long _]) (st := [.long _]) lmi7_alike lmv7_alike lml7_alike k7 e7 rfl rfl ((C7_fst g7).trans (C7_fst h7).symm) rfl ⟨rfl, rfl, Nat.le_of_ble_eq_true rfl, Nat.le_of_ble_eq_true rfl⟩ rfl rfl (Nat.le_of_ble_eq_true rfl) hce hsl dL_law_772 rfl ?_
  refine q_lcmp hOK dL_law_775 rfl ?_
  exact q_if_eq hOK 1236 dL_law_776 rfl rfl (fun _ => kk _ _ _ _ _ _ _ _ _ _ _ _ _ _ g6 g7) (fun z => absurd (cmp_self _) z)
theorem lc_ahead {l : Launch} {D : va_G} {c0 : Nat → ClassId} {K : KT} {b L ce sl : Nat} {xs : Nat → Int32} {a6 a7 : Nat → Nat} {i : Int32} (hOK : OKc D c0 K R_law code 4 room_1) (hX : XK K b L xs) (hZ : SK K) (hce : ce ≤ room_1.cells) (hsl : sl ≤ room_1.slots) (hI : InL L i) (kk : LI l D K c0 b a6 a7 ce sl i 1236) : LI l D K c0 b a6 a7 ce sl i 781 := by
  intro w6 w7 n β tr st h ea eb lo fo si it fd h6 h7
  obtain ⟨w6', k6, g6⟩ := s6_ahead (N := 2201) l D (by omega) h6 (xs (i + 1).toNatClampNeg) (xs (i + 2).toNatClampNeg)
  obtain ⟨w7', k7, g7⟩ := s7_ahead (N := 2201) l D (by omega) h7 (xs (i + 1).toNatClampNeg) (xs (i + 2).toNatClampNeg)
  obtain ⟨f6, e6⟩ := C6_hd h6
  obtain ⟨f7, e7⟩ := C7_hd h7
  refine q_aload_n hOK 1 dL_law_781 rfl rfl rfl ?_
  refine q_arg hOK hX (v := 1) hI.2.1 rfl rfl rfl dL_law_782 dL_law_783 dL_law_784 dL_law_785 dL_law_786 rfl ?_
  refine q_arg hOK hX (v := 2) hI.2.2.1 rfl rfl rfl dL_law_787 dL_law_788 dL_law_789 dL_law_790 dL_law_791 rfl ?_
  refine q_callL hOK (st := []) (st1 := [.int _]) lmi6_ahead lmv6_ahead lml6_ahead k6 e6 rfl rfl ((C6_fst g6).trans (C6_fst h6).symm) rfl ⟨rfl, rfl, Nat.le_of_ble_eq_true rfl, Nat.le_of_ble_eq_true rfl⟩ rfl rfl (Nat.le_of_ble_eq_true rfl) hce hsl dL_law_792 rfl ?_
  refine q_aload_n hOK 2 dL_law_795 rfl rfl rfl ?_
  refine q_arg hOK hX (v := 1) hI.2.1 rfl rfl rfl dL_law_796 dL_law_797 dL_law_798 dL_law_799 dL_law_800 rfl ?_
  refine q_arg hOK hX (v := 2) hI.2.2.1 rfl rfl rfl dL_law_801 dL_law_802 dL_law_803 dL_law_804 dL_law_805 rfl ?_
  refine q_callR hOK (st1 := [.int _, .int _]) (st := [.int _]) lmi7_ahead lmv7_ahead lml7_ahead k7 e7 rfl rfl ((C7_fst g7).trans (C7_fst h7).symm) rfl ⟨rfl, rfl, Nat.le_of_ble_eq_true rfl, Nat.le_of_ble_eq_true rfl⟩ rfl rfl (Nat.le_of_ble_eq_true rfl) hce hsl dL_law_806 rfl ?_
  exact q_icmp_eq hOK 1236 dL_law_809 rfl rfl (fun _ => kk _ _ _ _ _ _ _ _ _ _ _ _ _ _ g6 g7) (fun z => absurd rfl z)
theorem lc_forget {l : Launch} {D : va_G} {c0 : Nat → ClassId} {K : KT} {b L ce sl : Nat} {xs : Nat → Int32} {a6 a7 : Nat → Nat} {i : Int32} (hOK : OKc D c0 K R_law code 4 room_1) (hX : XK K b L xs) (hZ : SK K) (hce : ce ≤ room_1.cells) (hsl : sl ≤ room_1.slots) (hI : InL L i) (kk : LI l D K c0 b a6 a7 ce sl i 1236) : LI l D K c0 b a6 a7 ce sl i 814 := by
  intro w6 w7 n β tr st h ea eb lo fo si it fd h6 h7
  obtain ⟨w6', k6, g6⟩ := s6_forget (N := 2201) l D (by omega) h6 
  obtain ⟨w7', k7, g7⟩ := s7_forget (N := 2201) l D (by omega) h7 
  obtain ⟨f6, e6⟩ := C6_hd h6
  obtain ⟨f7, e7⟩ := C7_hd h7
  refine q_aload_n hOK 1 dL_law_814 rfl rfl rfl ?_
  refine q_callL hOK (st := []) (st1 := [.int _]) lmi6_forget lmv6_forget lml6_forget k6 e6 rfl rfl ((C6_fst g6).trans (C6_fst h6).symm) rfl ⟨rfl, rfl, Nat.le_of_ble_eq_true rfl, Nat.le_of_ble_eq_true rfl⟩ rfl rfl (Nat.le_of_ble_eq_true rfl) hce hsl dL_law_815 rfl ?_
  refine q_aload_n hOK 2 dL_law_818 rfl rfl rfl ?_
  refine q_callR hOK (st1 := [.int _, .int _]) (st := [.int _]) lmi7_forget lmv7_forget lml7_forget k7 e7 rfl rfl ((C7_fst g7).trans (C7_fst h7).symm) rfl ⟨rfl, rfl, Nat.le_of_ble_eq_true rfl, Nat.le_of_ble_eq_true rfl⟩ rfl rfl (Nat.le_of_ble_eq_true rfl) hce hsl dL_law_819 rfl ?_
  exact q_icmp_eq hOK 1236 dL_law_822 rfl rfl (fun _ => kk _ _ _ _ _ _ _ _ _ _ _ _ _ _ g6 g7) (fun z => absurd rfl z)
theorem lc_fits {l : Launch} {D : va_G} {c0 : Nat → ClassId} {K : KT} {b L ce sl : Nat} {xs : Nat → Int32} {a6 a7 : Nat → Nat} {i : Int32} (hOK : OKc D c0 K R_law code 4 room_1) (hX : XK K b L xs) (hZ : SK K) (hce : ce ≤ room_1.cells) (hsl : sl ≤ room_1.slots) (hI : InL L i) (kk : LI l D K c0 b a6 a7 ce sl i 1236) : LI l D K c0 b a6 a7 ce sl i 827 := by
  intro w6 w7 n β tr st h ea eb lo fo si it fd h6 h7
  obtain ⟨w6', k6, g6⟩ := s6_fits (N := 2201) l D (by omega) h6 (xs (i + 1).toNatClampNeg)
  obtain ⟨w7', k7, g7⟩ := s7_fits (N := 2201) l D (by omega) h7 (xs (i + 1).toNatClampNeg)
  obtain ⟨f6, e6⟩ := C6_hd h6
  obtain ⟨f7, e7⟩ := C7_hd h7
  refine q_aload_n hOK 1 dL_law_827 rfl rfl rfl ?_
  refine q_arg hOK hX (v := 1) hI.2.1 rfl rfl rfl dL_law_828 dL_law_829 dL_law_830 dL_law_831 dL_law_832 rfl ?_
  refine q_callL hOK (st := []) (st1 := [.long _]) lmi6_fits lmv6_fits lml6_fits k6 e6 rfl rfl ((C6_fst g6).trans (C6_fst h6).symm) rfl ⟨rfl, rfl, Nat.le_of_ble_eq_true rfl, Nat.le_of_ble_eq_true rfl⟩ rfl rfl (Nat.le_of_ble_eq_true rfl) hce hsl dL_law_833 rfl ?_
  refine q_aload_n hOK 2 dL_law_836 rfl rfl rfl ?_
  refine q_arg hOK hX (v := 1) hI.2.1 rfl rfl rfl dL_law_837 dL_law_838 dL_law_839 dL_law_840 dL_law_841 rfl ?_
  refine q_callR hOK (st1 := [.long _, .long _]) (st := [.long _]) lmi7_fits lmv7_fits lml7_fits k7 e7 rfl rfl ((C7_fst g7).trans (C7_fst h7).symm) rfl ⟨rfl, rfl, Nat.le_of_ble_eq_true rfl, Nat.le_of_ble_eq_true rfl⟩ rfl rfl (Nat.le_of_ble_eq_true rfl) hce hsl dL_law_842 rfl ?_
  refine q_lcmp hOK dL_law_845 rfl ?_
  exact q_if_eq hOK 1236 dL_law_846 rfl rfl (fun _ => kk _ _ _ _ _ _ _ _ _ _ _ _ _ _ g6 g7) (fun z => absurd (cmp_self _) z)
theorem lc_sure {l : Launch} {D : va_G} {c0 : Nat → ClassId} {K : KT} {b L ce sl : Nat} {xs : Nat → Int32} {a6 a7 : Nat → Nat} {i : Int32} (hOK : OKc D c0 K R_law code 4 room_1) (hX : XK K b L xs) (hZ : SK K) (hce : ce ≤ room_1.cells) (hsl : sl ≤ room_1.slots) (hI : InL L i) (kk : LI l D K c0 b a6 a7 ce sl i 1236) : LI l D K c0 b a6 a7 ce sl i 851 := by
  intro w6 w7 n β tr st h ea eb lo fo si it fd h6 h7
  obtain ⟨w6', k6, g6⟩ := s6_sure (N := 2201) l D (by omega) h6 (xs (i + 1).toNatClampNeg) (xs (i + 2).toNatClampNeg) (xs (i + 3).toNatClampNeg)
  obtain ⟨w7', k7, g7⟩ := s7_sure (N := 2201) l D (by omega) h7 (xs (i + 1).toNatClampNeg) (xs (i + 2).toNatClampNeg) (xs (i + 3).toNatClampNeg)
  obtain ⟨f6, e6⟩ := C6_hd h6
  obtain ⟨f7, e7⟩ := C7_hd h7
  refine q_aload_n hOK 1 dL_law_851 rfl rfl rfl ?_
  refine q_arg hOK hX (v := 1) hI.2.1 rfl rfl rfl dL_law_852 dL_law_853 dL_law_854 dL_law_855 dL_law_856 rfl ?_
  refine q_arg hOK hX (v := 2) hI.2.2.1 rfl rfl rfl dL_law_857 dL_law_858 dL_law_859 dL_law_860 dL_law_861 rfl ?_
  refine q_arg hOK hX (v := 3) hI.2.2.2.1 rfl rfl rfl dL_law_862 dL_law_863 dL_law_864 dL_law_865 dL_law_866 rfl ?_
  refine q_callL hOK (st := []) (st1 := [.int _]) lmi6_sure lmv6_sure lml6_sure k6 e6 rfl rfl ((C6_fst g6).trans (C6_fst h6).symm) rfl ⟨rfl, rfl, Nat.le_of_ble_eq_true rfl, Nat.le_of_ble_eq_true rfl⟩ rfl rfl (Nat.le_of_ble_eq_true rfl) hce hsl dL_law_867 rfl ?_
  refine q_aload_n hOK 2 dL_law_870 rfl rfl rfl ?_
  refine q_arg hOK hX (v := 1) hI.2.1 rfl rfl rfl dL_law_871 dL_law_872 dL_law_873 dL_law_874 dL_law_875 rfl ?_
  refine q_arg hOK hX (v := 2) hI.2.2.1 rfl rfl rfl dL_law_876 dL_law_877 dL_law_878 dL_law_879 dL_law_880 rfl ?_
  refine q_arg hOK hX (v := 3) hI.2.2.2.1 rfl rfl rfl dL_law_881 dL_law_882 dL_law_883 dL_law_884 dL_law_885 rfl ?_
  refine q_callR hOK (st1 := [.int _, .int _]) (st := [.int _]) lmi7_sure lmv7_sure lml7_sure k7 e7 rfl rfl ((C7_fst g7).trans (C7_fst h7).symm) rfl ⟨rfl, rfl, Nat.le_of_ble_eq_true rfl, Nat.le_of_ble_eq_true rfl⟩ rfl rfl (Nat.le_of_ble_eq_true rfl) hce hsl dL_law_886 rfl ?_
  exact q_icmp_eq hOK 1236 dL_law_889 rfl rfl (fun _ => kk _ _ _ _ _ _ _ _ _ _ _ _ _ _ g6 g7) (fun z => absurd rfl z)
theorem lc_firsts {l : Launch} {D : va_G} {c0 : Nat → ClassId} {K : KT} {b L ce sl : Nat} {xs : Nat → Int32} {a6 a7 : Nat → Nat} {i : Int32} (hOK : OKc D c0 K R_law code 4 room_1) (hX : XK K b L xs) (hZ : SK K) (hce : ce ≤ room_1.cells) (hsl : sl ≤ room_1.slots) (hI : InL L i) (kk : LI l D K c0 b a6 a7 ce sl i 1236) : LI l D K c0 b a6 a7 ce sl i 894 := by
  intro w6 w7 n β tr st h ea eb lo fo si it fd h6 h7
  obtain ⟨w6', k6, g6⟩ := s6_firsts (N := 2201) l D (by omega) h6 (xs (i + 1).toNatClampNeg)
  obtain ⟨w7', k7, g7⟩ := s7_firsts (N := 2201) l D (by omega) h7 (xs (i + 1).toNatClampNeg)
  obtain ⟨f6, e6⟩ := C6_hd h6
  obtain ⟨f7, e7⟩ := C7_hd h7
  refine q_aload_n hOK 1 dL_law_894 rfl rfl rfl ?_
  refine q_arg hOK hX (v := 1) hI.2.1 rfl rfl rfl dL_law_895 dL_law_896 dL_law_897 dL_law_898 dL_law_899 rfl ?_
  refine q_callL hOK (st := []) (st1 := [.int _]) lmi6_firsts lmv6_firsts lml6_firsts k6 e6 rfl rfl ((C6_fst g6).trans (C6_fst h6).symm) rfl ⟨rfl, rfl, Nat.le_of_ble_eq_true rfl, Nat.le_of_ble_eq_true rfl⟩ rfl rfl (Nat.le_of_ble_eq_true rfl) hce hsl dL_law_900 rfl ?_
  refine q_aload_n hOK 2 dL_law_903 rfl rfl rfl ?_
  refine q_arg hOK hX (v := 1) hI.2.1 rfl rfl rfl dL_law_904 dL_law_905 dL_law_906 dL_law_907 dL_law_908 rfl ?_
  refine q_callR hOK (st1 := [.int _, .int _]) (st := [.int _]) lmi7_firsts lmv7_firsts lml7_firsts k7 e7 rfl rfl ((C7_fst g7).trans (C7_fst h7).symm) rfl ⟨rfl, rfl, Nat.le_of_ble_eq_true rfl, Nat.le_of_ble_eq_true rfl⟩ rfl rfl (Nat.le_of_ble_eq_true rfl) hce hsl dL_law_909 rfl ?_
  exact q_icmp_eq hOK 1236 dL_law_912 rfl rfl (fun _ => kk _ _ _ _ _ _ _ _ _ _ _ _ _ _ g6 g7) (fun z => absurd rfl z)
theorem lc_night {l : Launch} {D : va_G} {c0 : Nat → ClassId} {K : KT} {b L ce sl : Nat} {xs : Nat → Int32} {a6 a7 : Nat → Nat} {i : Int32} (hOK : OKc D c0 K R_law code 4 room_1) (hX : XK K b L xs) (hZ : SK K) (hce : ce ≤ room_1.cells) (hsl : sl ≤ room_1.slots) (hI : InL L i) (kk : LI l D K c0 b a6 a7 ce sl i 1236) : LI l D K c0 b a6 a7 ce sl i 917 := by
  intro w6 w7 n β tr st h ea eb lo fo si it fd h6 h7
  obtain ⟨w6', k6, g6⟩ := s6_night (N := 2201) l D (by omega) h6 (xs (i + 1).toNatClampNeg) (xs (i + 2).toNatClampNeg)
  obtain ⟨w7', k7, g7⟩ := s7_night (N := 2201) l D (by omega) h7 (xs (i + 1).toNatClampNeg) (xs (i + 2).toNatClampNeg)
  obtain ⟨f6, e6⟩ := C6_hd h6
  obtain ⟨f7, e7⟩ := C7_hd h7
  refine q_aload_n hOK 1 dL_law_917 rfl rfl rfl ?_
  refine q_arg hOK hX (v := 1) hI.2.1 rfl rfl rfl dL_law_918 dL_law_919 dL_law_920 dL_law_921 dL_law_922 rfl ?_
  refine q_arg hOK hX (v := 2) hI.2.2.1 rfl rfl rfl dL_law_923 dL_law_924 dL_law_925 dL_law_926 dL_law_927 rfl ?_
  refine q_callL hOK (st := []) (st1 := [.long _]) lmi6_night lmv6_night lml6_night k6 e6 rfl rfl ((C6_fst g6).trans (C6_fst h6).symm) rfl ⟨rfl, rfl, Nat.le_of_ble_eq_true rfl, Nat.le_of_ble_eq_true rfl⟩ rfl rfl (Nat.le_of_ble_eq_true rfl) hce hsl dL_law_928 rfl ?_
  refine q_aload_n hOK 2 dL_law_931 rfl rfl rfl ?_
  refine q_arg hOK hX (v := 1) hI.2.1 rfl rfl rfl dL_law_932 dL_law_933 dL_law_934 dL_law_935 dL_law_936 rfl ?_
  refine q_arg hOK hX (v := 2) hI.2.2.1 rfl rfl rfl dL_law_937 dL_law_938 dL_law_939 dL_law_940 dL_law_941 rfl ?_
  refine q_callR hOK (st1 := [.long _, .long _]) (st := [.long _]) lmi7_night lmv7_night lml7_night k7 e7 rfl rfl ((C7_fst g7).trans (C7_fst h7).symm) rfl ⟨rfl, rfl, Nat.le_of_ble_eq_true rfl, Nat.le_of_ble_eq_true rfl⟩ rfl rfl (Nat.le_of_ble_eq_true rfl) hce hsl dL_law_942 rfl ?_
  refine q_lcmp hOK dL_law_945 rfl ?_
  exact q_if_eq hOK 1236 dL_law_946 rfl rfl (fun _ => kk _ _ _ _ _ _ _ _ _ _ _ _ _ _ g6 g7) (fun z => absurd (cmp_self _) z)
theorem lc_sheet {l : Launch} {D : va_G} {c0 : Nat → ClassId} {K : KT} {b L ce sl : Nat} {xs : Nat → Int32} {a6 a7 : Nat → Nat} {i : Int32} (hOK : OKc D c0 K R_law code 4 room_1) (hX : XK K b L xs) (hZ : SK K) (hce : ce ≤ room_1.cells) (hsl : sl ≤ room_1.slots) (hI : InL L i) (kk : LI l D K c0 b a6 a7 ce sl i 1236) : LI l D K c0 b a6 a7 ce sl i 951 := by
  intro w6 w7 n β tr st h ea eb lo fo si it fd h6 h7
  obtain ⟨w6', k6, g6⟩ := s6_sheet (N := 2201) l D (by omega) h6 (xs (i + 1).toNatClampNeg) (xs (i + 2).toNatClampNeg) (xs (i + 3).toNatClampNeg)
  obtain ⟨w7', k7, g7⟩ := s7_sheet (N := 2201) l D (by omega) h7 (xs (i + 1).toNatClampNeg) (xs (i + 2).toNatClampNeg) (xs (i + 3).toNatClampNeg)
  obtain ⟨f6, e6⟩ := C6_hd h6
  obtain ⟨f7, e7⟩ := C7_hd h7
  refine q_aload_n hOK 1 dL_law_951 rfl rfl rfl ?_
  refine q_arg hOK hX (v := 1) hI.2.1 rfl rfl rfl dL_law_952 dL_law_953 dL_law_954 dL_law_955 dL_law_956 rfl ?_
  refine q_arg hOK hX (v := 2) hI.2.2.1 rfl rfl rfl dL_law_957 dL_law_958 dL_law_959 dL_law_960 dL_law_961 rfl ?_
  refine q_arg hOK hX (v := 3) hI.2.2.2.1 rfl rfl rfl dL_law_962 dL_law_963 dL_law_964 dL_law_965 dL_law_966 rfl ?_
  refine q_callL hOK (st := []) (st1 := [.int _]) lmi6_sheet lmv6_sheet lml6_sheet k6 e6 rfl rfl ((C6_fst g6).trans (C6_fst h6).symm) rfl ⟨rfl, rfl, Nat.le_of_ble_eq_true rfl, Nat.le_of_ble_eq_true rfl⟩ rfl rfl (Nat.le_of_ble_eq_true rfl) hce hsl dL_law_967 rfl ?_
  refine q_aload_n hOK 2 dL_law_970 rfl rfl rfl ?_
  refine q_arg hOK hX (v := 1) hI.2.1 rfl rfl rfl dL_law_971 dL_law_972 dL_law_973 dL_law_974 dL_law_975 rfl ?_
  refine q_arg hOK hX (v := 2) hI.2.2.1 rfl rfl rfl dL_law_976 dL_law_977 dL_law_978 dL_law_979 dL_law_980 rfl ?_
  refine q_arg hOK hX (v := 3) hI.2.2.2.1 rfl rfl rfl dL_law_981 dL_law_982 dL_law_983 dL_law_984 dL_law_985 rfl ?_
  refine q_callR hOK (st1 := [.int _, .int _]) (st := [.int _]) lmi7_sheet lmv7_sheet lml7_sheet k7 e7 rfl rfl ((C7_fst g7).trans (C7_fst h7).symm) rfl ⟨rfl, rfl, Nat.le_of_ble_eq_true rfl, Nat.le_of_ble_eq_true rfl⟩ rfl rfl (Nat.le_of_ble_eq_true rfl) hce hsl dL_law_986 rfl ?_
  exact q_icmp_eq hOK 1236 dL_law_989 rfl rfl (fun _ => kk _ _ _ _ _ _ _ _ _ _ _ _ _ _ g6 g7) (fun z => absurd rfl z)
theorem lc_lose {l : Launch} {D : va_G} {c0 : Nat → ClassId} {K : KT} {b L ce sl : Nat} {xs : Nat → Int32} {a6 a7 : Nat → Nat} {i : Int32} (hOK : OKc D c0 K R_law code 4 room_1) (hX : XK K b L xs) (hZ : SK K) (hce : ce ≤ room_1.cells) (hsl : sl ≤ room_1.slots) (hI : InL L i) (kk : LI l D K c0 b a6 a7 ce sl i 1236) : LI l D K c0 b a6 a7 ce sl i 994 := by
  intro w6 w7 n β tr st h ea eb lo fo si it fd h6 h7
  obtain ⟨w6', k6, g6⟩ := s6_lose (N := 2201) l D (by omega) h6 (xs (i + 1).toNatClampNeg)
  obtain ⟨w7', k7, g7⟩ := s7_lose (N := 2201) l D (by omega) h7 (xs (i + 1).toNatClampNeg)
  obtain ⟨f6, e6⟩ := C6_hd h6
  obtain ⟨f7, e7⟩ := C7_hd h7
  refine q_aload_n hOK 1 dL_law_994 rfl rfl rfl ?_
  refine q_arg hOK hX (v := 1) hI.2.1 rfl rfl rfl dL_law_995 dL_law_996 dL_law_997 dL_law_998 dL_law_999 rfl ?_
  refine q_callL hOK (st := []) (st1 := [.int _]) lmi6_lose lmv6_lose lml6_lose k6 e6 rfl rfl ((C6_fst g6).trans (C6_fst h6).symm) rfl ⟨rfl, rfl, Nat.le_of_ble_eq_true rfl, Nat.le_of_ble_eq_true rfl⟩ rfl rfl (Nat.le_of_ble_eq_true rfl) hce hsl dL_law_1000 rfl ?_
  refine q_aload_n hOK 2 dL_law_1003 rfl rfl rfl ?_
  refine q_arg hOK hX (v := 1) hI.2.1 rfl rfl rfl dL_law_1004 dL_law_1005 dL_law_1006 dL_law_1007 dL_law_1008 rfl ?_
  refine q_callR hOK (st1 := [.int _, .int _]) (st := [.int _]) lmi7_lose lmv7_lose lml7_lose k7 e7 rfl rfl ((C7_fst g7).trans (C7_fst h7).symm) rfl ⟨rfl, rfl, Nat.le_of_ble_eq_true rfl, Nat.le_of_ble_eq_true rfl⟩ rfl rfl (Nat.le_of_ble_eq_true rfl) hce hsl dL_law_1009 rfl ?_
  exact q_icmp_eq hOK 1236 dL_law_1012 rfl rfl (fun _ => kk _ _ _ _ _ _ _ _ _ _ _ _ _ _ g6 g7) (fun z => absurd rfl z)
theorem lc_put {l : Launch} {D : va_G} {c0 : Nat → ClassId} {K : KT} {b L ce sl : Nat} {xs : Nat → Int32} {a6 a7 : Nat → Nat} {i : Int32} (hOK : OKc D c0 K R_law code 4 room_1) (hX : XK K b L xs) (hZ : SK K) (hce : ce ≤ room_1.cells) (hsl : sl ≤ room_1.slots) (hI : InL L i) (kk : LI l D K c0 b a6 a7 ce sl i 1236) : LI l D K c0 b a6 a7 ce sl i 1017 := by
  intro w6 w7 n β tr st h ea eb lo fo si it fd h6 h7
  obtain ⟨w6', k6, g6⟩ := s6_put (N := 2201) l D (by omega) h6 (xs (i + 1).toNatClampNeg) (xs (i + 2).toNatClampNeg) (xs (i + 3).toNatClampNeg) (xs (i + 4).toNatClampNeg)
  obtain ⟨w7', k7, g7⟩ := s7_put (N := 2201) l D (by omega) h7 (xs (i + 1).toNatClampNeg) (xs (i + 2).toNatClampNeg) (xs (i + 3).toNatClampNeg) (xs (i + 4).toNatClampNeg)
  obtain ⟨f6, e6⟩ := C6_hd h6
  obtain ⟨f7, e7⟩ := C7_hd h7
  refine q_aload_n hOK 1 dL_law_1017 rfl rfl rfl ?_
  refine q_arg hOK hX (v := 1) hI.2.1 rfl rfl rfl dL_law_1018 dL_law_1019 dL_law_1020 dL_law_1021 dL_law_1022 rfl ?_
  refine q_arg hOK hX (v := 2) hI.2.2.1 rfl rfl rfl dL_law_1023 dL_law_1024 dL_law_1025 dL_law_1026 dL_law_1027 rfl ?_
  refine q_arg hOK hX (v := 3) hI.2.2.2.1 rfl rfl rfl dL_law_1028 dL_law_1029 dL_law_1030 dL_law_1031 dL_law_1032 rfl ?_
  refine q_arg hOK hX (v := 4) hI.2.2.2.2.1 rfl rfl rfl dL_law_1033 dL_law_1034 dL_law_1035 dL_law_1036 dL_law_1037 rfl ?_
  refine q_callL hOK (st := []) (st1 := [.int _]) lmi6_put lmv6_put lml6_put k6 e6 rfl rfl ((C6_fst g6).trans (C6_fst h6).symm) rfl ⟨rfl, rfl, Nat.le_of_ble_eq_true rfl, Nat.le_of_ble_eq_true rfl⟩ rfl rfl (Nat.le_of_ble_eq_true rfl) hce hsl dL_law_1038 rfl ?_
  refine q_aload_n hOK 2 dL_law_1041 rfl rfl rfl ?_
  refine q_arg hOK hX (v := 1) hI.2.1 rfl rfl rfl dL_law_1042 dL_law_1043 dL_law_1044 dL_law_1045 dL_law_1046 rfl ?_
  refine q_arg hOK hX (v := 2) hI.2.2.1 rfl rfl rfl dL_law_1047 dL_law_1048 dL_law_1049 dL_law_1050 dL_law_1051 rfl ?_
  refine q_arg hOK hX (v := 3) hI.2.2.2.1 rfl rfl rfl dL_law_1052 dL_law_1053 dL_law_1054 dL_law_1055 dL_law_1056 rfl ?_
  refine q_arg hOK hX (v := 4) hI.2.2.2.2.1 rfl rfl rfl dL_law_1057 dL_law_1058 dL_law_1059 dL_law_1060 dL_law_1061 rfl ?_
  refine q_callR hOK (st1 := [.int _, .int _]) (st := [.int _]) lmi7_put lmv7_put lml7_put k7 e7 rfl rfl ((C7_fst g7).trans (C7_fst h7).symm) rfl ⟨rfl, rfl, Nat.le_of_ble_eq_true rfl, Nat.le_of_ble_eq_true rfl⟩ rfl rfl (Nat.le_of_ble_eq_true rfl) hce hsl dL_law_1062 rfl ?_
  exact q_icmp_eq hOK 1236 dL_law_1065 rfl rfl (fun _ => kk _ _ _ _ _ _ _ _ _ _ _ _ _ _ g6 g7) (fun z => absurd rfl z)
theorem lc_get {l : Launch} {D : va_G} {c0 : Nat → ClassId} {K : KT} {b L ce sl : Nat} {xs : Nat → Int32} {a6 a7 : Nat → Nat} {i : Int32} (hOK : OKc D c0 K R_law code 4 room_1) (hX : XK K b L xs) (hZ : SK K) (hce : ce ≤ room_1.cells) (hsl : sl ≤ room_1.slots) (hI : InL L i) (kk : LI l D K c0 b a6 a7 ce sl i 1236) : LI l D K c0 b a6 a7 ce sl i 1070 := by
  intro w6 w7 n β tr st h ea eb lo fo si it fd h6 h7
  obtain ⟨w6', k6, g6⟩ := s6_get (N := 2201) l D (by omega) h6 (xs (i + 1).toNatClampNeg) (xs (i + 2).toNatClampNeg) (xs (i + 3).toNatClampNeg)
  obtain ⟨w7', k7, g7⟩ := s7_get (N := 2201) l D (by omega) h7 (xs (i + 1).toNatClampNeg) (xs (i + 2).toNatClampNeg) (xs (i + 3).toNatClampNeg)
  obtain ⟨f6, e6⟩ := C6_hd h6
  obtain ⟨f7, e7⟩ := C7_hd h7
  refine q_aload_n hOK 1 dL_law_1070 rfl rfl rfl ?_
  refine q_arg hOK hX (v := 1) hI.2.1 rfl rfl rfl dL_law_1071 dL_law_1072 dL_law_1073 dL_law_1074 dL_law_1075 rfl ?_
  refine q_arg hOK hX (v := 2) hI.2.2.1 rfl rfl rfl dL_law_1076 dL_law_1077 dL_law_1078 dL_law_1079 dL_law_1080 rfl ?_
  refine q_arg hOK hX (v := 3) hI.2.2.2.1 rfl rfl rfl dL_law_1081 dL_law_1082 dL_law_1083 dL_law_1084 dL_law_1085 rfl ?_
  refine q_callL hOK (st := []) (st1 := [.int _]) lmi6_get lmv6_get lml6_get k6 e6 rfl rfl ((C6_fst g6).trans (C6_fst h6).symm) rfl ⟨rfl, rfl, Nat.le_of_ble_eq_true rfl, Nat.le_of_ble_eq_true rfl⟩ rfl rfl (Nat.le_of_ble_eq_true rfl) hce hsl dL_law_1086 rfl ?_
  refine q_aload_n hOK 2 dL_law_1089 rfl rfl rfl ?_
  refine q_arg hOK hX (v := 1) hI.2.1 rfl rfl rfl dL_law_1090 dL_law_1091 dL_law_1092 dL_law_1093 dL_law_1094 rfl ?_
  refine q_arg hOK hX (v := 2) hI.2.2.1 rfl rfl rfl dL_law_1095 dL_law_1096 dL_law_1097 dL_law_1098 dL_law_1099 rfl ?_
  refine q_arg hOK hX (v := 3) hI.2.2.2.1 rfl rfl rfl dL_law_1100 dL_law_1101 dL_law_1102 dL_law_1103 dL_law_1104 rfl ?_
  refine q_callR hOK (st1 := [.int _, .int _]) (st := [.int _]) lmi7_get lmv7_get lml7_get k7 e7 rfl rfl ((C7_fst g7).trans (C7_fst h7).symm) rfl ⟨rfl, rfl, Nat.le_of_ble_eq_true rfl, Nat.le_of_ble_eq_true rfl⟩ rfl rfl (Nat.le_of_ble_eq_true rfl) hce hsl dL_law_1105 rfl ?_
  exact q_icmp_eq hOK 1236 dL_law_1108 rfl rfl (fun _ => kk _ _ _ _ _ _ _ _ _ _ _ _ _ _ g6 g7) (fun z => absurd rfl z)
theorem lc_copy {l : Launch} {D : va_G} {c0 : Nat → ClassId} {K : KT} {b L ce sl : Nat} {xs : Nat → Int32} {a6 a7 : Nat → Nat} {i : Int32} (hOK : OKc D c0 K R_law code 4 room_1) (hX : XK K b L xs) (hZ : SK K) (hce : ce ≤ room_1.cells) (hsl : sl ≤ room_1.slots) (hI : InL L i) (kk : LI l D K c0 b a6 a7 ce sl i 1236) : LI l D K c0 b a6 a7 ce sl i 1113 := by
  intro w6 w7 n β tr st h ea eb lo fo si it fd h6 h7
  obtain ⟨w6', k6, g6⟩ := s6_copy (N := 2201) l D (by omega) h6 (xs (i + 1).toNatClampNeg) (xs (i + 2).toNatClampNeg) (xs (i + 3).toNatClampNeg) (xs (i + 4).toNatClampNeg) (xs (i + 5).toNatClampNeg)
  obtain ⟨w7', k7, g7⟩ := s7_copy (N := 2201) l D (by omega) h7 (xs (i + 1).toNatClampNeg) (xs (i + 2).toNatClampNeg) (xs (i + 3).toNatClampNeg) (xs (i + 4).toNatClampNeg) (xs (i + 5).toNatClampNeg)
  obtain ⟨f6, e6⟩ := C6_hd h6
  obtain ⟨f7, e7⟩ := C7_hd h7
  refine q_aload_n hOK 1 dL_law_1113 rfl rfl rfl ?_
  refine q_arg hOK hX (v := 1) hI.2.1 rfl rfl rfl dL_law_1114 dL_law_1115 dL_law_1116 dL_law_1117 dL_law_1118 rfl ?_
  refine q_arg hOK hX (v := 2) hI.2.2.1 rfl rfl rfl dL_law_1119 dL_law_1120 dL_law_1121 dL_law_1122 dL_law_1123 rfl ?_
  refine q_arg hOK hX (v := 3) hI.2.2.2.1 rfl rfl rfl dL_law_1124 dL_law_1125 dL_law_1126 dL_law_1127 dL_law_1128 rfl ?_
  refine q_arg hOK hX (v := 4) hI.2.2.2.2.1 rfl rfl rfl dL_law_1129 dL_law_1130 dL_law_1131 dL_law_1132 dL_law_1133 rfl ?_
  refine q_arg hOK hX (v := 5) hI.2.2.2.2.2 rfl rfl rfl dL_law_1134 dL_law_1135 dL_law_1136 dL_law_1137 dL_law_1138 rfl ?_
  refine q_callL hOK (st := []) (st1 := [.int _]) lmi6_copy lmv6_copy lml6_copy k6 e6 rfl rfl ((C6_fst g6).trans (C6_fst h6).symm) rfl ⟨rfl, rfl, Nat.le_of_ble_eq_true rfl, Nat.le_of_ble_eq_true rfl⟩ rfl rfl (Nat.le_of_ble_eq_true rfl) hce hsl dL_law_1139 rfl ?_
  refine q_aload_n hOK 2 dL_law_1142 rfl rfl rfl ?_
  refine q_arg hOK hX (v := 1) hI.2.1 rfl rfl rfl dL_law_1143 dL_law_1144 dL_law_1145 dL_law_1146 dL_law_1147 rfl ?_
  refine q_arg hOK hX (v := 2) hI.2.2.1 rfl rfl rfl dL_law_1148 dL_law_1149 dL_law_1150 dL_law_1151 dL_law_1152 rfl ?_
  refine q_arg hOK hX (v := 3) hI.2.2.2.1 rfl rfl rfl dL_law_1153 dL_law_1154 dL_law_1155 dL_law_1156 dL_law_1157 rfl ?_
  refine q_arg hOK hX (v := 4) hI.2.2.2.2.1 rfl rfl rfl dL_law_1158 dL_law_1159 dL_law_1160 dL_law_1161 dL_law_1162 rfl ?_
  refine q_arg hOK hX (v := 5) hI.2.2.2.2.2 rfl rfl rfl dL_law_1163 dL_law_1164 dL_law_1165 dL_law_1166 dL_law_1167 rfl ?_
  refine q_callR hOK (st1 := [.int _, .int _]) (st := [.int _]) lmi7_copy lmv7_copy lml7_copy k7 e7 rfl rfl ((C7_fst g7).trans (C7_fst h7).symm) rfl ⟨rfl, rfl, Nat.le_of_ble_eq_true rfl, Nat.le_of_ble_eq_true rfl⟩ rfl rfl (Nat.le_of_ble_eq_true rfl) hce hsl dL_law_1168 rfl ?_
  exact q_icmp_eq hOK 1236 dL_law_1171 rfl rfl (fun _ => kk _ _ _ _ _ _ _ _ _ _ _ _ _ _ g6 g7) (fun z => absurd rfl z)
theorem lc_write {l : Launch} {D : va_G} {c0 : Nat → ClassId} {K : KT} {b L ce sl : Nat} {xs : Nat → Int32} {a6 a7 : Nat → Nat} {i : Int32} (hOK : OKc D c0 K R_law code 4 room_1) (hX : XK K b L xs) (hZ : SK K) (hce : ce ≤ room_1.cells) (hsl : sl ≤ room_1.slots) (hI : InL L i) (kk : LI l D K c0 b a6 a7 ce sl i 1236) : LI l D K c0 b a6 a7 ce sl i 1176 := by
  intro w6 w7 n β tr st h ea eb lo fo si it fd h6 h7
  obtain ⟨w6', k6, g6⟩ := s6_write (N := 2201) l D (by omega) h6 (xs (i + 1).toNatClampNeg)
  obtain ⟨w7', k7, g7⟩ := s7_write (N := 2201) l D (by omega) h7 (xs (i + 1).toNatClampNeg)
  obtain ⟨f6, e6⟩ := C6_hd h6
  obtain ⟨f7, e7⟩ := C7_hd h7
  refine q_aload_n hOK 1 dL_law_1176 rfl rfl rfl ?_
  refine q_arg hOK hX (v := 1) hI.2.1 rfl rfl rfl dL_law_1177 dL_law_1178 dL_law_1179 dL_law_1180 dL_law_1181 rfl ?_
  refine q_callL hOK (st := []) (st1 := [.int _]) lmi6_write lmv6_write lml6_write k6 e6 rfl rfl ((C6_fst g6).trans (C6_fst h6).symm) rfl ⟨rfl, rfl, Nat.le_of_ble_eq_true rfl, Nat.le_of_ble_eq_true rfl⟩ rfl rfl (Nat.le_of_ble_eq_true rfl) hce hsl dL_law_1182 rfl ?_
  refine q_aload_n hOK 2 dL_law_1185 rfl rfl rfl ?_
  refine q_arg hOK hX (v := 1) hI.2.1 rfl rfl rfl dL_law_1186 dL_law_1187 dL_law_1188 dL_law_1189 dL_law_1190 rfl ?_
  refine q_callR hOK (st1 := [.int _, .int _]) (st := [.int _]) lmi7_write lmv7_write lml7_write k7 e7 rfl rfl ((C7_fst g7).trans (C7_fst h7).symm) rfl ⟨rfl, rfl, Nat.le_of_ble_eq_true rfl, Nat.le_of_ble_eq_true rfl⟩ rfl rfl (Nat.le_of_ble_eq_true rfl) hce hsl dL_law_1191 rfl ?_
  exact q_icmp_eq hOK 1236 dL_law_1194 rfl rfl (fun _ => kk _ _ _ _ _ _ _ _ _ _ _ _ _ _ g6 g7) (fun z => absurd rfl z)
theorem lc_count {l : Launch} {D : va_G} {c0 : Nat → ClassId} {K : KT} {b L ce sl : Nat} {xs : Nat → Int32} {a6 a7 : Nat → Nat} {i : Int32} (hOK : OKc D c0 K R_law code 4 room_1) (hX : XK K b L xs) (hZ : SK K) (hce : ce ≤ room_1.cells) (hsl : sl ≤ room_1.slots) (hI : InL L i) (kk : LI l D K c0 b a6 a7 ce sl i 1236) : LI l D K c0 b a6 a7 ce sl i 1199 := by
  intro w6 w7 n β tr st h ea eb lo fo si it fd h6 h7
  obtain ⟨w6', k6, g6⟩ := s6_count (N := 2201) l D (by omega) h6 (xs (i + 1).toNatClampNeg)
  obtain ⟨w7', k7, g7⟩ := s7_count (N := 2201) l D (by omega) h7 (xs (i + 1).toNatClampNeg)
  obtain ⟨f6, e6⟩ := C6_hd h6
  obtain ⟨f7, e7⟩ := C7_hd h7
  refine q_aload_n hOK 1 dL_law_1199 rfl rfl rfl ?_
  refine q_arg hOK hX (v := 1) hI.2.1 rfl rfl rfl dL_law_1200 dL_law_1201 dL_law_1202 dL_law_1203 dL_law_1204 rfl ?_
  refine q_callL hOK (st := []) (st1 := [.int _]) lmi6_count lmv6_count lml6_count k6 e6 rfl rfl ((C6_fst g6).trans (C6_fst h6).symm) rfl ⟨rfl, rfl, Nat.le_of_ble_eq_true rfl, Nat.le_of_ble_eq_true rfl⟩ rfl rfl (Nat.le_of_ble_eq_true rfl) hce hsl dL_law_1205 rfl ?_
  refine q_aload_n hOK 2 dL_law_1208 rfl rfl rfl ?_
  refine q_arg hOK hX (v := 1) hI.2.1 rfl rfl rfl dL_law_1209 dL_law_1210 dL_law_1211 dL_law_1212 dL_law_1213 rfl ?_
  refine q_callR hOK (st1 := [.int _, .int _]) (st := [.int _]) lmi7_count lmv7_count lml7_count k7 e7 rfl rfl ((C7_fst g7).trans (C7_fst h7).symm) rfl ⟨rfl, rfl, Nat.le_of_ble_eq_true rfl, Nat.le_of_ble_eq_true rfl⟩ rfl rfl (Nat.le_of_ble_eq_true rfl) hce hsl dL_law_1214 rfl ?_
  exact q_icmp_eq hOK 1236 dL_law_1217 rfl rfl (fun _ => kk _ _ _ _ _ _ _ _ _ _ _ _ _ _ g6 g7) (fun z => absurd rfl z)
theorem lc_digest {l : Launch} {D : va_G} {c0 : Nat → ClassId} {K : KT} {b L ce sl : Nat} {xs : Nat → Int32} {a6 a7 : Nat → Nat} {i : Int32} (hOK : OKc D c0 K R_law code 4 room_1) (hX : XK K b L xs) (hZ : SK K) (hce : ce ≤ room_1.cells) (hsl : sl ≤ room_1.slots) (hI : InL L i) (kk : LI l D K c0 b a6 a7 ce sl i 1236) : LI l D K c0 b a6 a7 ce sl i 1222 := by
  intro w6 w7 n β tr st h ea eb lo fo si it fd h6 h7
  obtain ⟨w6', k6, g6⟩ := s6_digest (N := 2201) l D (by omega) h6 
  obtain ⟨w7', k7, g7⟩ := s7_digest (N := 2201) l D (by omega) h7 
  obtain ⟨f6, e6⟩ := C6_hd h6
  obtain ⟨f7, e7⟩ := C7_hd h7
  refine q_aload_n hOK 1 dL_law_1222 rfl rfl rfl ?_
  refine q_callL hOK (st := []) (st1 := [.long _]) lmi6_digest lmv6_digest lml6_digest k6 e6 rfl rfl ((C6_fst g6).trans (C6_fst h6).symm) rfl ⟨rfl, rfl, Nat.le_of_ble_eq_true rfl, Nat.le_of_ble_eq_true rfl⟩ rfl rfl (Nat.le_of_ble_eq_true rfl) hce hsl dL_law_1223 rfl ?_
  refine q_aload_n hOK 2 dL_law_1226 rfl rfl rfl ?_
  refine q_callR hOK (st1 := [.long _, .long _]) (st := [.long _]) lmi7_digest lmv7_digest lml7_digest k7 e7 rfl rfl ((C7_fst g7).trans (C7_fst h7).symm) rfl ⟨rfl, rfl, Nat.le_of_ble_eq_true rfl, Nat.le_of_ble_eq_true rfl⟩ rfl rfl (Nat.le_of_ble_eq_true rfl) hce hsl dL_law_1227 rfl ?_
  refine q_lcmp hOK dL_law_1230 rfl ?_
  exact q_if_eq hOK 1236 dL_law_1231 rfl rfl (fun _ => kk _ _ _ _ _ _ _ _ _ _ _ _ _ _ g6 g7) (fun z => absurd (cmp_self _) z)

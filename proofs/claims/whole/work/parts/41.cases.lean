set_option maxHeartbeats 4000000 in
set_option maxRecDepth 100000 in
theorem lwc_use {p : Program} {l : Launch} {e : Env} {s : State} {m : MethodId} {below : List Frame} {meth : Method} {c : Code} {H : Heap} {locs : List Loc} {cells slots : Nat} {Q : State → Prop} {b L i : Nat} {xs : Nat → Int32} {D : va_G} {cI cZ cO : ClassId} {a : Nat → Nat} {e0 mi : Nat} {n : Nat} {o : Nat → Nat} {S : cSt} {T : rSt} {h ad : Nat → Nat} {md : Nat → Int32} {ls : Array Slot} (F : lwF p s m c b L xs D cI cZ cO a e0 mi) (I : lwI D cI cZ cO a e0 s n o S T h ad md H locs) (hR : Rel n o S T) (hL : L ≤ 2560) (hi : i + 5 ≤ L) (hl : lv_has ls 4 [(3, .int (nI i)), (2, .ref (a 0)), (1, .ref (h 0)), (0, .ref b)]) (hc : cells + 3 ≤ 1200000 ∧ slots + 43 ≤ 5502250)
    (kk : ∀ (n' : Nat) (o' : Nat → Nat) (S' : cSt) (T' : rSt) (h' ad' : Nat → Nat) (md' : Nat → Int32) (H1 : Heap) (locs1 : List Loc), h' 0 = h 0 → lwI D cI cZ cO a e0 s n' o' S' T' h' ad' md' H1 locs1 → Rel n' o' S' T' → W p l e room_1 s m #[Value.ref b] below meth c H1 locs1 (cells + 3) (slots + 43) Q (F0 m 567 ls [])) : W p l e room_1 s m #[Value.ref b] below meth c H locs cells slots Q (F0 m 177 ls []) := by
  have hx := F.1
  have hb := F.2.1
  have hts := F.2.2.2.2.1
  have hnd := F.2.2.2.2.2.2.2.2.2.2.2.1
  have e := s_use hR (xs (i + 1))
  refine lv_aload_n hx hb dL_law_177 rfl (lv_at hl 2 rfl) ?_
  refine l_arg F I hL hl (k := 1) rfl (by omega) dL_law_178 dL_law_179 dL_law_180 dL_law_181 dL_law_182 ?_
  refine l_cI (As := [.int (xs (i + 1))]) (rest := []) F I (c_X1_use l D cO h ad md n o I.1 S hR.cok (xs (i + 1))) (cwV 1 hts gL_law_X1_use rfl rfl rfl (by decide +kernel) ⟨Nat.le_of_ble_eq_true rfl, Nat.le_of_ble_eq_true rfl⟩) rfl hl.1 rfl (Nat.le_of_ble_eq_true rfl) dL_law_183 ⟨by omega, by omega⟩ (fun H1 locs1 I => ?_)
  refine lv_aload_n hx hb dL_law_186 rfl (lv_at hl 1 rfl) ?_
  refine l_arg F I hL hl (k := 1) rfl (by omega) dL_law_187 dL_law_188 dL_law_189 dL_law_190 dL_law_191 ?_
  refine l_rI (As := [.int (xs (i + 1))]) (rest := [.int (C_use n o S (xs (i + 1))).1]) F I (c_X2_use l D cI cZ a hnd n T hR.rok (xs (i + 1))) (cwV 1 hts gL_law_X2_use rfl rfl rfl (by decide +kernel) ⟨Nat.le_of_ble_eq_true rfl, Nat.le_of_ble_eq_true rfl⟩) rfl hl.1 rfl (Nat.le_of_ble_eq_true rfl) dL_law_192 ⟨by omega, by omega⟩ (fun H1 locs1 I => ?_)
  refine lv_icmp_eq (tgt := 567) hx hb dL_law_195 (by decide) (fun _ => ?_) (fun z => absurd e.1 z)
  exact W.widen (k := cells + 3) (n := slots + 43) (by omega) (by omega) (kk _ _ _ _ _ _ _ _ _ rfl I e.2)

set_option maxHeartbeats 4000000 in
set_option maxRecDepth 100000 in
theorem lwc_release {p : Program} {l : Launch} {e : Env} {s : State} {m : MethodId} {below : List Frame} {meth : Method} {c : Code} {H : Heap} {locs : List Loc} {cells slots : Nat} {Q : State → Prop} {b L i : Nat} {xs : Nat → Int32} {D : va_G} {cI cZ cO : ClassId} {a : Nat → Nat} {e0 mi : Nat} {n : Nat} {o : Nat → Nat} {S : cSt} {T : rSt} {h ad : Nat → Nat} {md : Nat → Int32} {ls : Array Slot} (F : lwF p s m c b L xs D cI cZ cO a e0 mi) (I : lwI D cI cZ cO a e0 s n o S T h ad md H locs) (hR : Rel n o S T) (hL : L ≤ 2560) (hi : i + 5 ≤ L) (hl : lv_has ls 4 [(3, .int (nI i)), (2, .ref (a 0)), (1, .ref (h 0)), (0, .ref b)]) (hc : cells + 3 ≤ 1200000 ∧ slots + 43 ≤ 5502250)
    (kk : ∀ (n' : Nat) (o' : Nat → Nat) (S' : cSt) (T' : rSt) (h' ad' : Nat → Nat) (md' : Nat → Int32) (H1 : Heap) (locs1 : List Loc), h' 0 = h 0 → lwI D cI cZ cO a e0 s n' o' S' T' h' ad' md' H1 locs1 → Rel n' o' S' T' → W p l e room_1 s m #[Value.ref b] below meth c H1 locs1 (cells + 3) (slots + 43) Q (F0 m 567 ls [])) : W p l e room_1 s m #[Value.ref b] below meth c H locs cells slots Q (F0 m 200 ls []) := by
  have hx := F.1
  have hb := F.2.1
  have hts := F.2.2.2.2.1
  have hnd := F.2.2.2.2.2.2.2.2.2.2.2.1
  have e := s_release hR (xs (i + 1))
  refine lv_aload_n hx hb dL_law_200 rfl (lv_at hl 2 rfl) ?_
  refine l_arg F I hL hl (k := 1) rfl (by omega) dL_law_201 dL_law_202 dL_law_203 dL_law_204 dL_law_205 ?_
  refine l_cI (As := [.int (xs (i + 1))]) (rest := []) F I (c_X1_release l D cO h ad md n o I.1 S hR.cok (xs (i + 1))) (cwV 1 hts gL_law_X1_release rfl rfl rfl (by decide +kernel) ⟨Nat.le_of_ble_eq_true rfl, Nat.le_of_ble_eq_true rfl⟩) rfl hl.1 rfl (Nat.le_of_ble_eq_true rfl) dL_law_206 ⟨by omega, by omega⟩ (fun H1 locs1 I => ?_)
  refine lv_aload_n hx hb dL_law_209 rfl (lv_at hl 1 rfl) ?_
  refine l_arg F I hL hl (k := 1) rfl (by omega) dL_law_210 dL_law_211 dL_law_212 dL_law_213 dL_law_214 ?_
  refine l_rI (As := [.int (xs (i + 1))]) (rest := [.int (C_release n o S (xs (i + 1))).1]) F I (c_X2_release l D cI cZ a hnd n T hR.rok (xs (i + 1))) (cwV 1 hts gL_law_X2_release rfl rfl rfl (by decide +kernel) ⟨Nat.le_of_ble_eq_true rfl, Nat.le_of_ble_eq_true rfl⟩) rfl hl.1 rfl (Nat.le_of_ble_eq_true rfl) dL_law_215 ⟨by omega, by omega⟩ (fun H1 locs1 I => ?_)
  refine lv_icmp_eq (tgt := 567) hx hb dL_law_218 (by decide) (fun _ => ?_) (fun z => absurd e.1 z)
  exact W.widen (k := cells + 3) (n := slots + 43) (by omega) (by omega) (kk _ _ _ _ _ _ _ _ _ rfl I e.2)

set_option maxHeartbeats 4000000 in
set_option maxRecDepth 100000 in
theorem lwc_refuse {p : Program} {l : Launch} {e : Env} {s : State} {m : MethodId} {below : List Frame} {meth : Method} {c : Code} {H : Heap} {locs : List Loc} {cells slots : Nat} {Q : State → Prop} {b L i : Nat} {xs : Nat → Int32} {D : va_G} {cI cZ cO : ClassId} {a : Nat → Nat} {e0 mi : Nat} {n : Nat} {o : Nat → Nat} {S : cSt} {T : rSt} {h ad : Nat → Nat} {md : Nat → Int32} {ls : Array Slot} (F : lwF p s m c b L xs D cI cZ cO a e0 mi) (I : lwI D cI cZ cO a e0 s n o S T h ad md H locs) (hR : Rel n o S T) (hL : L ≤ 2560) (hi : i + 5 ≤ L) (hl : lv_has ls 4 [(3, .int (nI i)), (2, .ref (a 0)), (1, .ref (h 0)), (0, .ref b)]) (hc : cells + 3 ≤ 1200000 ∧ slots + 43 ≤ 5502250)
    (kk : ∀ (n' : Nat) (o' : Nat → Nat) (S' : cSt) (T' : rSt) (h' ad' : Nat → Nat) (md' : Nat → Int32) (H1 : Heap) (locs1 : List Loc), h' 0 = h 0 → lwI D cI cZ cO a e0 s n' o' S' T' h' ad' md' H1 locs1 → Rel n' o' S' T' → W p l e room_1 s m #[Value.ref b] below meth c H1 locs1 (cells + 3) (slots + 43) Q (F0 m 567 ls [])) : W p l e room_1 s m #[Value.ref b] below meth c H locs cells slots Q (F0 m 272 ls []) := by
  have hx := F.1
  have hb := F.2.1
  have hts := F.2.2.2.2.1
  have hnd := F.2.2.2.2.2.2.2.2.2.2.2.1
  have e := s_refuse hR (xs (i + 1)) (xs (i + 2))
  refine lv_aload_n hx hb dL_law_272 rfl (lv_at hl 2 rfl) ?_
  refine l_arg F I hL hl (k := 1) rfl (by omega) dL_law_273 dL_law_274 dL_law_275 dL_law_276 dL_law_277 ?_
  refine l_arg F I hL hl (k := 2) rfl (by omega) dL_law_278 dL_law_279 dL_law_280 dL_law_281 dL_law_282 ?_
  refine l_cI (As := [.int (xs (i + 1)), .int (xs (i + 2))]) (rest := []) F I (c_X1_refuse l D cO h ad md n o I.1 S hR.cok (xs (i + 1)) (xs (i + 2))) (cwV 2 hts gL_law_X1_refuse rfl rfl rfl (by decide +kernel) ⟨Nat.le_of_ble_eq_true rfl, Nat.le_of_ble_eq_true rfl⟩) rfl hl.1 rfl (Nat.le_of_ble_eq_true rfl) dL_law_283 ⟨by omega, by omega⟩ (fun H1 locs1 I => ?_)
  refine lv_aload_n hx hb dL_law_286 rfl (lv_at hl 1 rfl) ?_
  refine l_arg F I hL hl (k := 1) rfl (by omega) dL_law_287 dL_law_288 dL_law_289 dL_law_290 dL_law_291 ?_
  refine l_arg F I hL hl (k := 2) rfl (by omega) dL_law_292 dL_law_293 dL_law_294 dL_law_295 dL_law_296 ?_
  refine l_rI (As := [.int (xs (i + 1)), .int (xs (i + 2))]) (rest := [.int (C_refuse n o S (xs (i + 1)) (xs (i + 2))).1]) F I (c_X2_refuse l D cI cZ a hnd n T hR.rok (xs (i + 1)) (xs (i + 2))) (cwV 2 hts gL_law_X2_refuse rfl rfl rfl (by decide +kernel) ⟨Nat.le_of_ble_eq_true rfl, Nat.le_of_ble_eq_true rfl⟩) rfl hl.1 rfl (Nat.le_of_ble_eq_true rfl) dL_law_297 ⟨by omega, by omega⟩ (fun H1 locs1 I => ?_)
  refine lv_icmp_eq (tgt := 567) hx hb dL_law_300 (by decide) (fun _ => ?_) (fun z => absurd e.1 z)
  exact W.widen (k := cells + 3) (n := slots + 43) (by omega) (by omega) (kk _ _ _ _ _ _ _ _ _ rfl I e.2)

set_option maxHeartbeats 4000000 in
set_option maxRecDepth 100000 in
theorem lwc_signal {p : Program} {l : Launch} {e : Env} {s : State} {m : MethodId} {below : List Frame} {meth : Method} {c : Code} {H : Heap} {locs : List Loc} {cells slots : Nat} {Q : State → Prop} {b L i : Nat} {xs : Nat → Int32} {D : va_G} {cI cZ cO : ClassId} {a : Nat → Nat} {e0 mi : Nat} {n : Nat} {o : Nat → Nat} {S : cSt} {T : rSt} {h ad : Nat → Nat} {md : Nat → Int32} {ls : Array Slot} (F : lwF p s m c b L xs D cI cZ cO a e0 mi) (I : lwI D cI cZ cO a e0 s n o S T h ad md H locs) (hR : Rel n o S T) (hL : L ≤ 2560) (hi : i + 5 ≤ L) (hl : lv_has ls 4 [(3, .int (nI i)), (2, .ref (a 0)), (1, .ref (h 0)), (0, .ref b)]) (hc : cells + 3 ≤ 1200000 ∧ slots + 43 ≤ 5502250)
    (kk : ∀ (n' : Nat) (o' : Nat → Nat) (S' : cSt) (T' : rSt) (h' ad' : Nat → Nat) (md' : Nat → Int32) (H1 : Heap) (locs1 : List Loc), h' 0 = h 0 → lwI D cI cZ cO a e0 s n' o' S' T' h' ad' md' H1 locs1 → Rel n' o' S' T' → W p l e room_1 s m #[Value.ref b] below meth c H1 locs1 (cells + 3) (slots + 43) Q (F0 m 567 ls [])) : W p l e room_1 s m #[Value.ref b] below meth c H locs cells slots Q (F0 m 305 ls []) := by
  have hx := F.1
  have hb := F.2.1
  have hts := F.2.2.2.2.1
  have hnd := F.2.2.2.2.2.2.2.2.2.2.2.1
  have e := s_signal hR (xs (i + 1))
  refine lv_aload_n hx hb dL_law_305 rfl (lv_at hl 2 rfl) ?_
  refine l_arg F I hL hl (k := 1) rfl (by omega) dL_law_306 dL_law_307 dL_law_308 dL_law_309 dL_law_310 ?_
  refine l_cI (As := [.int (xs (i + 1))]) (rest := []) F I (c_X1_signal l D cO h ad md n o I.1 S hR.cok (xs (i + 1))) (cwV 1 hts gL_law_X1_signal rfl rfl rfl (by decide +kernel) ⟨Nat.le_of_ble_eq_true rfl, Nat.le_of_ble_eq_true rfl⟩) rfl hl.1 rfl (Nat.le_of_ble_eq_true rfl) dL_law_311 ⟨by omega, by omega⟩ (fun H1 locs1 I => ?_)
  refine lv_aload_n hx hb dL_law_314 rfl (lv_at hl 1 rfl) ?_
  refine l_arg F I hL hl (k := 1) rfl (by omega) dL_law_315 dL_law_316 dL_law_317 dL_law_318 dL_law_319 ?_
  refine l_rI (As := [.int (xs (i + 1))]) (rest := [.int (C_signal n o S (xs (i + 1))).1]) F I (c_X2_signal l D cI cZ a hnd n T hR.rok (xs (i + 1))) (cwV 1 hts gL_law_X2_signal rfl rfl rfl (by decide +kernel) ⟨Nat.le_of_ble_eq_true rfl, Nat.le_of_ble_eq_true rfl⟩) rfl hl.1 rfl (Nat.le_of_ble_eq_true rfl) dL_law_320 ⟨by omega, by omega⟩ (fun H1 locs1 I => ?_)
  refine lv_icmp_eq (tgt := 567) hx hb dL_law_323 (by decide) (fun _ => ?_) (fun z => absurd e.1 z)
  exact W.widen (k := cells + 3) (n := slots + 43) (by omega) (by omega) (kk _ _ _ _ _ _ _ _ _ rfl I e.2)

set_option maxHeartbeats 4000000 in
set_option maxRecDepth 100000 in
theorem lwc_sleep {p : Program} {l : Launch} {e : Env} {s : State} {m : MethodId} {below : List Frame} {meth : Method} {c : Code} {H : Heap} {locs : List Loc} {cells slots : Nat} {Q : State → Prop} {b L i : Nat} {xs : Nat → Int32} {D : va_G} {cI cZ cO : ClassId} {a : Nat → Nat} {e0 mi : Nat} {n : Nat} {o : Nat → Nat} {S : cSt} {T : rSt} {h ad : Nat → Nat} {md : Nat → Int32} {ls : Array Slot} (F : lwF p s m c b L xs D cI cZ cO a e0 mi) (I : lwI D cI cZ cO a e0 s n o S T h ad md H locs) (hR : Rel n o S T) (hL : L ≤ 2560) (hi : i + 5 ≤ L) (hl : lv_has ls 4 [(3, .int (nI i)), (2, .ref (a 0)), (1, .ref (h 0)), (0, .ref b)]) (hc : cells + 3 ≤ 1200000 ∧ slots + 43 ≤ 5502250)
    (kk : ∀ (n' : Nat) (o' : Nat → Nat) (S' : cSt) (T' : rSt) (h' ad' : Nat → Nat) (md' : Nat → Int32) (H1 : Heap) (locs1 : List Loc), h' 0 = h 0 → lwI D cI cZ cO a e0 s n' o' S' T' h' ad' md' H1 locs1 → Rel n' o' S' T' → W p l e room_1 s m #[Value.ref b] below meth c H1 locs1 (cells + 3) (slots + 43) Q (F0 m 567 ls [])) : W p l e room_1 s m #[Value.ref b] below meth c H locs cells slots Q (F0 m 328 ls []) := by
  have hx := F.1
  have hb := F.2.1
  have hts := F.2.2.2.2.1
  have hnd := F.2.2.2.2.2.2.2.2.2.2.2.1
  have e := s_sleep hR
  refine lv_aload_n hx hb dL_law_328 rfl (lv_at hl 2 rfl) ?_
  refine l_cI (As := []) (rest := []) F I (c_X1_sleep l D cO h ad md n o I.1 S hR.cok) (cwV 0 hts gL_law_X1_sleep rfl rfl rfl (by decide +kernel) ⟨Nat.le_of_ble_eq_true rfl, Nat.le_of_ble_eq_true rfl⟩) rfl hl.1 rfl (Nat.le_of_ble_eq_true rfl) dL_law_329 ⟨by omega, by omega⟩ (fun H1 locs1 I => ?_)
  refine lv_aload_n hx hb dL_law_332 rfl (lv_at hl 1 rfl) ?_
  refine l_rI (As := []) (rest := [.int (C_sleep n o S).1]) F I (c_X2_sleep l D cI cZ a hnd n T hR.rok) (cwV 0 hts gL_law_X2_sleep rfl rfl rfl (by decide +kernel) ⟨Nat.le_of_ble_eq_true rfl, Nat.le_of_ble_eq_true rfl⟩) rfl hl.1 rfl (Nat.le_of_ble_eq_true rfl) dL_law_333 ⟨by omega, by omega⟩ (fun H1 locs1 I => ?_)
  refine lv_icmp_eq (tgt := 567) hx hb dL_law_336 (by decide) (fun _ => ?_) (fun z => absurd e.1 z)
  exact W.widen (k := cells + 3) (n := slots + 43) (by omega) (by omega) (kk _ _ _ _ _ _ _ _ _ rfl I e.2)

set_option maxHeartbeats 4000000 in
set_option maxRecDepth 100000 in
theorem lwc_watch {p : Program} {l : Launch} {e : Env} {s : State} {m : MethodId} {below : List Frame} {meth : Method} {c : Code} {H : Heap} {locs : List Loc} {cells slots : Nat} {Q : State → Prop} {b L i : Nat} {xs : Nat → Int32} {D : va_G} {cI cZ cO : ClassId} {a : Nat → Nat} {e0 mi : Nat} {n : Nat} {o : Nat → Nat} {S : cSt} {T : rSt} {h ad : Nat → Nat} {md : Nat → Int32} {ls : Array Slot} (F : lwF p s m c b L xs D cI cZ cO a e0 mi) (I : lwI D cI cZ cO a e0 s n o S T h ad md H locs) (hR : Rel n o S T) (hL : L ≤ 2560) (hi : i + 5 ≤ L) (hl : lv_has ls 4 [(3, .int (nI i)), (2, .ref (a 0)), (1, .ref (h 0)), (0, .ref b)]) (hc : cells + 3 ≤ 1200000 ∧ slots + 43 ≤ 5502250)
    (kk : ∀ (n' : Nat) (o' : Nat → Nat) (S' : cSt) (T' : rSt) (h' ad' : Nat → Nat) (md' : Nat → Int32) (H1 : Heap) (locs1 : List Loc), h' 0 = h 0 → lwI D cI cZ cO a e0 s n' o' S' T' h' ad' md' H1 locs1 → Rel n' o' S' T' → W p l e room_1 s m #[Value.ref b] below meth c H1 locs1 (cells + 3) (slots + 43) Q (F0 m 567 ls [])) : W p l e room_1 s m #[Value.ref b] below meth c H locs cells slots Q (F0 m 341 ls []) := by
  have hx := F.1
  have hb := F.2.1
  have hts := F.2.2.2.2.1
  have hnd := F.2.2.2.2.2.2.2.2.2.2.2.1
  have e := s_watch hR (xs (i + 1))
  refine lv_aload_n hx hb dL_law_341 rfl (lv_at hl 2 rfl) ?_
  refine l_arg F I hL hl (k := 1) rfl (by omega) dL_law_342 dL_law_343 dL_law_344 dL_law_345 dL_law_346 ?_
  refine l_cI (As := [.int (xs (i + 1))]) (rest := []) F I (c_X1_watch l D cO h ad md n o I.1 S hR.cok (xs (i + 1))) (cwV 1 hts gL_law_X1_watch rfl rfl rfl (by decide +kernel) ⟨Nat.le_of_ble_eq_true rfl, Nat.le_of_ble_eq_true rfl⟩) rfl hl.1 rfl (Nat.le_of_ble_eq_true rfl) dL_law_347 ⟨by omega, by omega⟩ (fun H1 locs1 I => ?_)
  refine lv_aload_n hx hb dL_law_350 rfl (lv_at hl 1 rfl) ?_
  refine l_arg F I hL hl (k := 1) rfl (by omega) dL_law_351 dL_law_352 dL_law_353 dL_law_354 dL_law_355 ?_
  refine l_rI (As := [.int (xs (i + 1))]) (rest := [.int (C_watch n o S (xs (i + 1))).1]) F I (c_X2_watch l D cI cZ a hnd n T hR.rok (xs (i + 1))) (cwV 1 hts gL_law_X2_watch rfl rfl rfl (by decide +kernel) ⟨Nat.le_of_ble_eq_true rfl, Nat.le_of_ble_eq_true rfl⟩) rfl hl.1 rfl (Nat.le_of_ble_eq_true rfl) dL_law_356 ⟨by omega, by omega⟩ (fun H1 locs1 I => ?_)
  refine lv_icmp_eq (tgt := 567) hx hb dL_law_359 (by decide) (fun _ => ?_) (fun z => absurd e.1 z)
  exact W.widen (k := cells + 3) (n := slots + 43) (by omega) (by omega) (kk _ _ _ _ _ _ _ _ _ rfl I e.2)

set_option maxHeartbeats 4000000 in
set_option maxRecDepth 100000 in
theorem lwc_kick {p : Program} {l : Launch} {e : Env} {s : State} {m : MethodId} {below : List Frame} {meth : Method} {c : Code} {H : Heap} {locs : List Loc} {cells slots : Nat} {Q : State → Prop} {b L i : Nat} {xs : Nat → Int32} {D : va_G} {cI cZ cO : ClassId} {a : Nat → Nat} {e0 mi : Nat} {n : Nat} {o : Nat → Nat} {S : cSt} {T : rSt} {h ad : Nat → Nat} {md : Nat → Int32} {ls : Array Slot} (F : lwF p s m c b L xs D cI cZ cO a e0 mi) (I : lwI D cI cZ cO a e0 s n o S T h ad md H locs) (hR : Rel n o S T) (hL : L ≤ 2560) (hi : i + 5 ≤ L) (hl : lv_has ls 4 [(3, .int (nI i)), (2, .ref (a 0)), (1, .ref (h 0)), (0, .ref b)]) (hc : cells + 3 ≤ 1200000 ∧ slots + 43 ≤ 5502250)
    (kk : ∀ (n' : Nat) (o' : Nat → Nat) (S' : cSt) (T' : rSt) (h' ad' : Nat → Nat) (md' : Nat → Int32) (H1 : Heap) (locs1 : List Loc), h' 0 = h 0 → lwI D cI cZ cO a e0 s n' o' S' T' h' ad' md' H1 locs1 → Rel n' o' S' T' → W p l e room_1 s m #[Value.ref b] below meth c H1 locs1 (cells + 3) (slots + 43) Q (F0 m 567 ls [])) : W p l e room_1 s m #[Value.ref b] below meth c H locs cells slots Q (F0 m 364 ls []) := by
  have hx := F.1
  have hb := F.2.1
  have hts := F.2.2.2.2.1
  have hnd := F.2.2.2.2.2.2.2.2.2.2.2.1
  have e := s_kick hR
  refine lv_aload_n hx hb dL_law_364 rfl (lv_at hl 2 rfl) ?_
  refine l_cI (As := []) (rest := []) F I (c_X1_kick l D cO h ad md n o I.1 S hR.cok) (cwV 0 hts gL_law_X1_kick rfl rfl rfl (by decide +kernel) ⟨Nat.le_of_ble_eq_true rfl, Nat.le_of_ble_eq_true rfl⟩) rfl hl.1 rfl (Nat.le_of_ble_eq_true rfl) dL_law_365 ⟨by omega, by omega⟩ (fun H1 locs1 I => ?_)
  refine lv_aload_n hx hb dL_law_368 rfl (lv_at hl 1 rfl) ?_
  refine l_rI (As := []) (rest := [.int (C_kick n o S).1]) F I (c_X2_kick l D cI cZ a hnd n T hR.rok) (cwV 0 hts gL_law_X2_kick rfl rfl rfl (by decide +kernel) ⟨Nat.le_of_ble_eq_true rfl, Nat.le_of_ble_eq_true rfl⟩) rfl hl.1 rfl (Nat.le_of_ble_eq_true rfl) dL_law_369 ⟨by omega, by omega⟩ (fun H1 locs1 I => ?_)
  refine lv_icmp_eq (tgt := 567) hx hb dL_law_372 (by decide) (fun _ => ?_) (fun z => absurd e.1 z)
  exact W.widen (k := cells + 3) (n := slots + 43) (by omega) (by omega) (kk _ _ _ _ _ _ _ _ _ rfl I e.2)

set_option maxHeartbeats 4000000 in
set_option maxRecDepth 100000 in
theorem lwc_tick {p : Program} {l : Launch} {e : Env} {s : State} {m : MethodId} {below : List Frame} {meth : Method} {c : Code} {H : Heap} {locs : List Loc} {cells slots : Nat} {Q : State → Prop} {b L i : Nat} {xs : Nat → Int32} {D : va_G} {cI cZ cO : ClassId} {a : Nat → Nat} {e0 mi : Nat} {n : Nat} {o : Nat → Nat} {S : cSt} {T : rSt} {h ad : Nat → Nat} {md : Nat → Int32} {ls : Array Slot} (F : lwF p s m c b L xs D cI cZ cO a e0 mi) (I : lwI D cI cZ cO a e0 s n o S T h ad md H locs) (hR : Rel n o S T) (hL : L ≤ 2560) (hi : i + 5 ≤ L) (hl : lv_has ls 4 [(3, .int (nI i)), (2, .ref (a 0)), (1, .ref (h 0)), (0, .ref b)]) (hc : cells + 3 ≤ 1200000 ∧ slots + 43 ≤ 5502250)
    (kk : ∀ (n' : Nat) (o' : Nat → Nat) (S' : cSt) (T' : rSt) (h' ad' : Nat → Nat) (md' : Nat → Int32) (H1 : Heap) (locs1 : List Loc), h' 0 = h 0 → lwI D cI cZ cO a e0 s n' o' S' T' h' ad' md' H1 locs1 → Rel n' o' S' T' → W p l e room_1 s m #[Value.ref b] below meth c H1 locs1 (cells + 3) (slots + 43) Q (F0 m 567 ls [])) : W p l e room_1 s m #[Value.ref b] below meth c H locs cells slots Q (F0 m 377 ls []) := by
  have hx := F.1
  have hb := F.2.1
  have hts := F.2.2.2.2.1
  have hnd := F.2.2.2.2.2.2.2.2.2.2.2.1
  have e := s_tick hR (xs (i + 1))
  refine lv_aload_n hx hb dL_law_377 rfl (lv_at hl 2 rfl) ?_
  refine l_arg F I hL hl (k := 1) rfl (by omega) dL_law_378 dL_law_379 dL_law_380 dL_law_381 dL_law_382 ?_
  refine l_cI (As := [.int (xs (i + 1))]) (rest := []) F I (c_X1_tick l D cO h ad md n o I.1 S hR.cok (xs (i + 1))) (cwV 1 hts gL_law_X1_tick rfl rfl rfl (by decide +kernel) ⟨Nat.le_of_ble_eq_true rfl, Nat.le_of_ble_eq_true rfl⟩) rfl hl.1 rfl (Nat.le_of_ble_eq_true rfl) dL_law_383 ⟨by omega, by omega⟩ (fun H1 locs1 I => ?_)
  refine lv_aload_n hx hb dL_law_386 rfl (lv_at hl 1 rfl) ?_
  refine l_arg F I hL hl (k := 1) rfl (by omega) dL_law_387 dL_law_388 dL_law_389 dL_law_390 dL_law_391 ?_
  refine l_rI (As := [.int (xs (i + 1))]) (rest := [.int (C_tick n o S (xs (i + 1))).1]) F I (c_X2_tick l D cI cZ a hnd n T hR.rok (xs (i + 1)) (fun j _ => s_tick_due hR j)) (cwV 1 hts gL_law_X2_tick rfl rfl rfl (by decide +kernel) ⟨Nat.le_of_ble_eq_true rfl, Nat.le_of_ble_eq_true rfl⟩) rfl hl.1 rfl (Nat.le_of_ble_eq_true rfl) dL_law_392 ⟨by omega, by omega⟩ (fun H1 locs1 I => ?_)
  refine lv_icmp_eq (tgt := 567) hx hb dL_law_395 (by decide) (fun _ => ?_) (fun z => absurd e.1 z)
  exact W.widen (k := cells + 3) (n := slots + 43) (by omega) (by omega) (kk _ _ _ _ _ _ _ _ _ rfl I e.2)

set_option maxHeartbeats 4000000 in
set_option maxRecDepth 100000 in
theorem lwc_phase {p : Program} {l : Launch} {e : Env} {s : State} {m : MethodId} {below : List Frame} {meth : Method} {c : Code} {H : Heap} {locs : List Loc} {cells slots : Nat} {Q : State → Prop} {b L i : Nat} {xs : Nat → Int32} {D : va_G} {cI cZ cO : ClassId} {a : Nat → Nat} {e0 mi : Nat} {n : Nat} {o : Nat → Nat} {S : cSt} {T : rSt} {h ad : Nat → Nat} {md : Nat → Int32} {ls : Array Slot} (F : lwF p s m c b L xs D cI cZ cO a e0 mi) (I : lwI D cI cZ cO a e0 s n o S T h ad md H locs) (hR : Rel n o S T) (hL : L ≤ 2560) (hi : i + 5 ≤ L) (hl : lv_has ls 4 [(3, .int (nI i)), (2, .ref (a 0)), (1, .ref (h 0)), (0, .ref b)]) (hc : cells + 3 ≤ 1200000 ∧ slots + 43 ≤ 5502250)
    (kk : ∀ (n' : Nat) (o' : Nat → Nat) (S' : cSt) (T' : rSt) (h' ad' : Nat → Nat) (md' : Nat → Int32) (H1 : Heap) (locs1 : List Loc), h' 0 = h 0 → lwI D cI cZ cO a e0 s n' o' S' T' h' ad' md' H1 locs1 → Rel n' o' S' T' → W p l e room_1 s m #[Value.ref b] below meth c H1 locs1 (cells + 3) (slots + 43) Q (F0 m 567 ls [])) : W p l e room_1 s m #[Value.ref b] below meth c H locs cells slots Q (F0 m 400 ls []) := by
  have hx := F.1
  have hb := F.2.1
  have hts := F.2.2.2.2.1
  have hnd := F.2.2.2.2.2.2.2.2.2.2.2.1
  have e := s_phase hR
  refine lv_aload_n hx hb dL_law_400 rfl (lv_at hl 2 rfl) ?_
  refine l_cR (As := []) (rest := []) F I (c_X1_phase l D cO h ad md n o I.1 S hR.cok) (cwV 0 hts gL_law_X1_phase rfl rfl rfl (by decide +kernel) ⟨Nat.le_of_ble_eq_true rfl, Nat.le_of_ble_eq_true rfl⟩) rfl hl.1 rfl (Nat.le_of_ble_eq_true rfl) dL_law_401 ⟨by omega, by omega⟩ ?_
  refine lv_aload_n hx hb dL_law_404 rfl (lv_at hl 1 rfl) ?_
  refine l_rR (As := []) (rest := [.int (C_phase n o S)]) F I (c_X2_phase l D cI cZ a hnd n T hR.rok) (cwV 0 hts gL_law_X2_phase rfl rfl rfl (by decide +kernel) ⟨Nat.le_of_ble_eq_true rfl, Nat.le_of_ble_eq_true rfl⟩) rfl hl.1 rfl (Nat.le_of_ble_eq_true rfl) dL_law_405 ⟨by omega, by omega⟩ ?_
  refine lv_icmp_eq (tgt := 567) hx hb dL_law_408 (by decide) (fun _ => ?_) (fun z => absurd e z)
  exact W.widen (k := cells + 3) (n := slots + 43) (by omega) (by omega) (kk _ _ _ _ _ _ _ _ _ rfl I hR)

set_option maxHeartbeats 4000000 in
set_option maxRecDepth 100000 in
theorem lwc_state {p : Program} {l : Launch} {e : Env} {s : State} {m : MethodId} {below : List Frame} {meth : Method} {c : Code} {H : Heap} {locs : List Loc} {cells slots : Nat} {Q : State → Prop} {b L i : Nat} {xs : Nat → Int32} {D : va_G} {cI cZ cO : ClassId} {a : Nat → Nat} {e0 mi : Nat} {n : Nat} {o : Nat → Nat} {S : cSt} {T : rSt} {h ad : Nat → Nat} {md : Nat → Int32} {ls : Array Slot} (F : lwF p s m c b L xs D cI cZ cO a e0 mi) (I : lwI D cI cZ cO a e0 s n o S T h ad md H locs) (hR : Rel n o S T) (hL : L ≤ 2560) (hi : i + 5 ≤ L) (hl : lv_has ls 4 [(3, .int (nI i)), (2, .ref (a 0)), (1, .ref (h 0)), (0, .ref b)]) (hc : cells + 3 ≤ 1200000 ∧ slots + 43 ≤ 5502250)
    (kk : ∀ (n' : Nat) (o' : Nat → Nat) (S' : cSt) (T' : rSt) (h' ad' : Nat → Nat) (md' : Nat → Int32) (H1 : Heap) (locs1 : List Loc), h' 0 = h 0 → lwI D cI cZ cO a e0 s n' o' S' T' h' ad' md' H1 locs1 → Rel n' o' S' T' → W p l e room_1 s m #[Value.ref b] below meth c H1 locs1 (cells + 3) (slots + 43) Q (F0 m 567 ls [])) : W p l e room_1 s m #[Value.ref b] below meth c H locs cells slots Q (F0 m 413 ls []) := by
  have hx := F.1
  have hb := F.2.1
  have hts := F.2.2.2.2.1
  have hnd := F.2.2.2.2.2.2.2.2.2.2.2.1
  have e := s_state hR (xs (i + 1))
  refine lv_aload_n hx hb dL_law_413 rfl (lv_at hl 2 rfl) ?_
  refine l_arg F I hL hl (k := 1) rfl (by omega) dL_law_414 dL_law_415 dL_law_416 dL_law_417 dL_law_418 ?_
  refine l_cR (As := [.int (xs (i + 1))]) (rest := []) F I (c_X1_state l D cO h ad md n o I.1 S hR.cok (xs (i + 1))) (cwV 1 hts gL_law_X1_state rfl rfl rfl (by decide +kernel) ⟨Nat.le_of_ble_eq_true rfl, Nat.le_of_ble_eq_true rfl⟩) rfl hl.1 rfl (Nat.le_of_ble_eq_true rfl) dL_law_419 ⟨by omega, by omega⟩ ?_
  refine lv_aload_n hx hb dL_law_422 rfl (lv_at hl 1 rfl) ?_
  refine l_arg F I hL hl (k := 1) rfl (by omega) dL_law_423 dL_law_424 dL_law_425 dL_law_426 dL_law_427 ?_
  refine l_rR (As := [.int (xs (i + 1))]) (rest := [.int (C_state n o S (xs (i + 1)))]) F I (c_X2_state l D cI cZ a hnd n T hR.rok (xs (i + 1))) (cwV 1 hts gL_law_X2_state rfl rfl rfl (by decide +kernel) ⟨Nat.le_of_ble_eq_true rfl, Nat.le_of_ble_eq_true rfl⟩) rfl hl.1 rfl (Nat.le_of_ble_eq_true rfl) dL_law_428 ⟨by omega, by omega⟩ ?_
  refine lv_icmp_eq (tgt := 567) hx hb dL_law_431 (by decide) (fun _ => ?_) (fun z => absurd e z)
  exact W.widen (k := cells + 3) (n := slots + 43) (by omega) (by omega) (kk _ _ _ _ _ _ _ _ _ rfl I hR)

set_option maxHeartbeats 4000000 in
set_option maxRecDepth 100000 in
theorem lwc_uses {p : Program} {l : Launch} {e : Env} {s : State} {m : MethodId} {below : List Frame} {meth : Method} {c : Code} {H : Heap} {locs : List Loc} {cells slots : Nat} {Q : State → Prop} {b L i : Nat} {xs : Nat → Int32} {D : va_G} {cI cZ cO : ClassId} {a : Nat → Nat} {e0 mi : Nat} {n : Nat} {o : Nat → Nat} {S : cSt} {T : rSt} {h ad : Nat → Nat} {md : Nat → Int32} {ls : Array Slot} (F : lwF p s m c b L xs D cI cZ cO a e0 mi) (I : lwI D cI cZ cO a e0 s n o S T h ad md H locs) (hR : Rel n o S T) (hL : L ≤ 2560) (hi : i + 5 ≤ L) (hl : lv_has ls 4 [(3, .int (nI i)), (2, .ref (a 0)), (1, .ref (h 0)), (0, .ref b)]) (hc : cells + 3 ≤ 1200000 ∧ slots + 43 ≤ 5502250)
    (kk : ∀ (n' : Nat) (o' : Nat → Nat) (S' : cSt) (T' : rSt) (h' ad' : Nat → Nat) (md' : Nat → Int32) (H1 : Heap) (locs1 : List Loc), h' 0 = h 0 → lwI D cI cZ cO a e0 s n' o' S' T' h' ad' md' H1 locs1 → Rel n' o' S' T' → W p l e room_1 s m #[Value.ref b] below meth c H1 locs1 (cells + 3) (slots + 43) Q (F0 m 567 ls [])) : W p l e room_1 s m #[Value.ref b] below meth c H locs cells slots Q (F0 m 436 ls []) := by
  have hx := F.1
  have hb := F.2.1
  have hts := F.2.2.2.2.1
  have hnd := F.2.2.2.2.2.2.2.2.2.2.2.1
  have e := s_uses hR (xs (i + 1))
  refine lv_aload_n hx hb dL_law_436 rfl (lv_at hl 2 rfl) ?_
  refine l_arg F I hL hl (k := 1) rfl (by omega) dL_law_437 dL_law_438 dL_law_439 dL_law_440 dL_law_441 ?_
  refine l_cR (As := [.int (xs (i + 1))]) (rest := []) F I (c_X1_uses l D cO h ad md n o I.1 S hR.cok (xs (i + 1))) (cwV 1 hts gL_law_X1_uses rfl rfl rfl (by decide +kernel) ⟨Nat.le_of_ble_eq_true rfl, Nat.le_of_ble_eq_true rfl⟩) rfl hl.1 rfl (Nat.le_of_ble_eq_true rfl) dL_law_442 ⟨by omega, by omega⟩ ?_
  refine lv_aload_n hx hb dL_law_445 rfl (lv_at hl 1 rfl) ?_
  refine l_arg F I hL hl (k := 1) rfl (by omega) dL_law_446 dL_law_447 dL_law_448 dL_law_449 dL_law_450 ?_
  refine l_rR (As := [.int (xs (i + 1))]) (rest := [.int (C_uses n o S (xs (i + 1)))]) F I (c_X2_uses l D cI cZ a hnd n T hR.rok (xs (i + 1))) (cwV 1 hts gL_law_X2_uses rfl rfl rfl (by decide +kernel) ⟨Nat.le_of_ble_eq_true rfl, Nat.le_of_ble_eq_true rfl⟩) rfl hl.1 rfl (Nat.le_of_ble_eq_true rfl) dL_law_451 ⟨by omega, by omega⟩ ?_
  refine lv_icmp_eq (tgt := 567) hx hb dL_law_454 (by decide) (fun _ => ?_) (fun z => absurd e z)
  exact W.widen (k := cells + 3) (n := slots + 43) (by omega) (by omega) (kk _ _ _ _ _ _ _ _ _ rfl I hR)

set_option maxHeartbeats 4000000 in
set_option maxRecDepth 100000 in
theorem lwc_idle {p : Program} {l : Launch} {e : Env} {s : State} {m : MethodId} {below : List Frame} {meth : Method} {c : Code} {H : Heap} {locs : List Loc} {cells slots : Nat} {Q : State → Prop} {b L i : Nat} {xs : Nat → Int32} {D : va_G} {cI cZ cO : ClassId} {a : Nat → Nat} {e0 mi : Nat} {n : Nat} {o : Nat → Nat} {S : cSt} {T : rSt} {h ad : Nat → Nat} {md : Nat → Int32} {ls : Array Slot} (F : lwF p s m c b L xs D cI cZ cO a e0 mi) (I : lwI D cI cZ cO a e0 s n o S T h ad md H locs) (hR : Rel n o S T) (hL : L ≤ 2560) (hi : i + 5 ≤ L) (hl : lv_has ls 4 [(3, .int (nI i)), (2, .ref (a 0)), (1, .ref (h 0)), (0, .ref b)]) (hc : cells + 3 ≤ 1200000 ∧ slots + 43 ≤ 5502250)
    (kk : ∀ (n' : Nat) (o' : Nat → Nat) (S' : cSt) (T' : rSt) (h' ad' : Nat → Nat) (md' : Nat → Int32) (H1 : Heap) (locs1 : List Loc), h' 0 = h 0 → lwI D cI cZ cO a e0 s n' o' S' T' h' ad' md' H1 locs1 → Rel n' o' S' T' → W p l e room_1 s m #[Value.ref b] below meth c H1 locs1 (cells + 3) (slots + 43) Q (F0 m 567 ls [])) : W p l e room_1 s m #[Value.ref b] below meth c H locs cells slots Q (F0 m 459 ls []) := by
  have hx := F.1
  have hb := F.2.1
  have hts := F.2.2.2.2.1
  have hnd := F.2.2.2.2.2.2.2.2.2.2.2.1
  have e := s_idle hR (xs (i + 1))
  refine lv_aload_n hx hb dL_law_459 rfl (lv_at hl 2 rfl) ?_
  refine l_arg F I hL hl (k := 1) rfl (by omega) dL_law_460 dL_law_461 dL_law_462 dL_law_463 dL_law_464 ?_
  refine l_cR (As := [.int (xs (i + 1))]) (rest := []) F I (c_X1_idle l D cO h ad md n o I.1 S hR.cok (xs (i + 1))) (cwV 1 hts gL_law_X1_idle rfl rfl rfl (by decide +kernel) ⟨Nat.le_of_ble_eq_true rfl, Nat.le_of_ble_eq_true rfl⟩) rfl hl.1 rfl (Nat.le_of_ble_eq_true rfl) dL_law_465 ⟨by omega, by omega⟩ ?_
  refine lv_aload_n hx hb dL_law_468 rfl (lv_at hl 1 rfl) ?_
  refine l_arg F I hL hl (k := 1) rfl (by omega) dL_law_469 dL_law_470 dL_law_471 dL_law_472 dL_law_473 ?_
  refine l_rR (As := [.int (xs (i + 1))]) (rest := [.int (C_idle n o S (xs (i + 1)))]) F I (c_X2_idle l D cI cZ a hnd n T hR.rok (xs (i + 1))) (cwV 1 hts gL_law_X2_idle rfl rfl rfl (by decide +kernel) ⟨Nat.le_of_ble_eq_true rfl, Nat.le_of_ble_eq_true rfl⟩) rfl hl.1 rfl (Nat.le_of_ble_eq_true rfl) dL_law_474 ⟨by omega, by omega⟩ ?_
  refine lv_icmp_eq (tgt := 567) hx hb dL_law_477 (by decide) (fun _ => ?_) (fun z => absurd e z)
  exact W.widen (k := cells + 3) (n := slots + 43) (by omega) (by omega) (kk _ _ _ _ _ _ _ _ _ rfl I hR)

set_option maxHeartbeats 4000000 in
set_option maxRecDepth 100000 in
theorem lwc_refusals {p : Program} {l : Launch} {e : Env} {s : State} {m : MethodId} {below : List Frame} {meth : Method} {c : Code} {H : Heap} {locs : List Loc} {cells slots : Nat} {Q : State → Prop} {b L i : Nat} {xs : Nat → Int32} {D : va_G} {cI cZ cO : ClassId} {a : Nat → Nat} {e0 mi : Nat} {n : Nat} {o : Nat → Nat} {S : cSt} {T : rSt} {h ad : Nat → Nat} {md : Nat → Int32} {ls : Array Slot} (F : lwF p s m c b L xs D cI cZ cO a e0 mi) (I : lwI D cI cZ cO a e0 s n o S T h ad md H locs) (hR : Rel n o S T) (hL : L ≤ 2560) (hi : i + 5 ≤ L) (hl : lv_has ls 4 [(3, .int (nI i)), (2, .ref (a 0)), (1, .ref (h 0)), (0, .ref b)]) (hc : cells + 3 ≤ 1200000 ∧ slots + 43 ≤ 5502250)
    (kk : ∀ (n' : Nat) (o' : Nat → Nat) (S' : cSt) (T' : rSt) (h' ad' : Nat → Nat) (md' : Nat → Int32) (H1 : Heap) (locs1 : List Loc), h' 0 = h 0 → lwI D cI cZ cO a e0 s n' o' S' T' h' ad' md' H1 locs1 → Rel n' o' S' T' → W p l e room_1 s m #[Value.ref b] below meth c H1 locs1 (cells + 3) (slots + 43) Q (F0 m 567 ls [])) : W p l e room_1 s m #[Value.ref b] below meth c H locs cells slots Q (F0 m 482 ls []) := by
  have hx := F.1
  have hb := F.2.1
  have hts := F.2.2.2.2.1
  have hnd := F.2.2.2.2.2.2.2.2.2.2.2.1
  have e := s_refusals hR (xs (i + 1))
  refine lv_aload_n hx hb dL_law_482 rfl (lv_at hl 2 rfl) ?_
  refine l_arg F I hL hl (k := 1) rfl (by omega) dL_law_483 dL_law_484 dL_law_485 dL_law_486 dL_law_487 ?_
  refine l_cR (As := [.int (xs (i + 1))]) (rest := []) F I (c_X1_refusals l D cO h ad md n o I.1 S hR.cok (xs (i + 1))) (cwV 1 hts gL_law_X1_refusals rfl rfl rfl (by decide +kernel) ⟨Nat.le_of_ble_eq_true rfl, Nat.le_of_ble_eq_true rfl⟩) rfl hl.1 rfl (Nat.le_of_ble_eq_true rfl) dL_law_488 ⟨by omega, by omega⟩ ?_
  refine lv_aload_n hx hb dL_law_491 rfl (lv_at hl 1 rfl) ?_
  refine l_arg F I hL hl (k := 1) rfl (by omega) dL_law_492 dL_law_493 dL_law_494 dL_law_495 dL_law_496 ?_
  refine l_rR (As := [.int (xs (i + 1))]) (rest := [.int (C_refusals n o S (xs (i + 1)))]) F I (c_X2_refusals l D cI cZ a hnd n T hR.rok (xs (i + 1))) (cwV 1 hts gL_law_X2_refusals rfl rfl rfl (by decide +kernel) ⟨Nat.le_of_ble_eq_true rfl, Nat.le_of_ble_eq_true rfl⟩) rfl hl.1 rfl (Nat.le_of_ble_eq_true rfl) dL_law_497 ⟨by omega, by omega⟩ ?_
  refine lv_icmp_eq (tgt := 567) hx hb dL_law_500 (by decide) (fun _ => ?_) (fun z => absurd e z)
  exact W.widen (k := cells + 3) (n := slots + 43) (by omega) (by omega) (kk _ _ _ _ _ _ _ _ _ rfl I hR)

set_option maxHeartbeats 4000000 in
set_option maxRecDepth 100000 in
theorem lwc_due {p : Program} {l : Launch} {e : Env} {s : State} {m : MethodId} {below : List Frame} {meth : Method} {c : Code} {H : Heap} {locs : List Loc} {cells slots : Nat} {Q : State → Prop} {b L i : Nat} {xs : Nat → Int32} {D : va_G} {cI cZ cO : ClassId} {a : Nat → Nat} {e0 mi : Nat} {n : Nat} {o : Nat → Nat} {S : cSt} {T : rSt} {h ad : Nat → Nat} {md : Nat → Int32} {ls : Array Slot} (F : lwF p s m c b L xs D cI cZ cO a e0 mi) (I : lwI D cI cZ cO a e0 s n o S T h ad md H locs) (hR : Rel n o S T) (hL : L ≤ 2560) (hi : i + 5 ≤ L) (hl : lv_has ls 4 [(3, .int (nI i)), (2, .ref (a 0)), (1, .ref (h 0)), (0, .ref b)]) (hc : cells + 3 ≤ 1200000 ∧ slots + 43 ≤ 5502250)
    (kk : ∀ (n' : Nat) (o' : Nat → Nat) (S' : cSt) (T' : rSt) (h' ad' : Nat → Nat) (md' : Nat → Int32) (H1 : Heap) (locs1 : List Loc), h' 0 = h 0 → lwI D cI cZ cO a e0 s n' o' S' T' h' ad' md' H1 locs1 → Rel n' o' S' T' → W p l e room_1 s m #[Value.ref b] below meth c H1 locs1 (cells + 3) (slots + 43) Q (F0 m 567 ls [])) : W p l e room_1 s m #[Value.ref b] below meth c H locs cells slots Q (F0 m 505 ls []) := by
  have hx := F.1
  have hb := F.2.1
  have hts := F.2.2.2.2.1
  have hnd := F.2.2.2.2.2.2.2.2.2.2.2.1
  have e := s_due hR
  refine lv_aload_n hx hb dL_law_505 rfl (lv_at hl 2 rfl) ?_
  refine l_cR (As := []) (rest := []) F I (c_X1_due l D cO h ad md n o I.1 S hR.cok) (cwV 0 hts gL_law_X1_due rfl rfl rfl (by decide +kernel) ⟨Nat.le_of_ble_eq_true rfl, Nat.le_of_ble_eq_true rfl⟩) rfl hl.1 rfl (Nat.le_of_ble_eq_true rfl) dL_law_506 ⟨by omega, by omega⟩ ?_
  refine lv_aload_n hx hb dL_law_509 rfl (lv_at hl 1 rfl) ?_
  refine l_rR (As := []) (rest := [.int (C_due n o S)]) F I (c_X2_due l D cI cZ a hnd n T hR.rok) (cwV 0 hts gL_law_X2_due rfl rfl rfl (by decide +kernel) ⟨Nat.le_of_ble_eq_true rfl, Nat.le_of_ble_eq_true rfl⟩) rfl hl.1 rfl (Nat.le_of_ble_eq_true rfl) dL_law_510 ⟨by omega, by omega⟩ ?_
  refine lv_icmp_eq (tgt := 567) hx hb dL_law_513 (by decide) (fun _ => ?_) (fun z => absurd e z)
  exact W.widen (k := cells + 3) (n := slots + 43) (by omega) (by omega) (kk _ _ _ _ _ _ _ _ _ rfl I hR)

set_option maxHeartbeats 4000000 in
set_option maxRecDepth 100000 in
theorem lwc_left {p : Program} {l : Launch} {e : Env} {s : State} {m : MethodId} {below : List Frame} {meth : Method} {c : Code} {H : Heap} {locs : List Loc} {cells slots : Nat} {Q : State → Prop} {b L i : Nat} {xs : Nat → Int32} {D : va_G} {cI cZ cO : ClassId} {a : Nat → Nat} {e0 mi : Nat} {n : Nat} {o : Nat → Nat} {S : cSt} {T : rSt} {h ad : Nat → Nat} {md : Nat → Int32} {ls : Array Slot} (F : lwF p s m c b L xs D cI cZ cO a e0 mi) (I : lwI D cI cZ cO a e0 s n o S T h ad md H locs) (hR : Rel n o S T) (hL : L ≤ 2560) (hi : i + 5 ≤ L) (hl : lv_has ls 4 [(3, .int (nI i)), (2, .ref (a 0)), (1, .ref (h 0)), (0, .ref b)]) (hc : cells + 3 ≤ 1200000 ∧ slots + 43 ≤ 5502250)
    (kk : ∀ (n' : Nat) (o' : Nat → Nat) (S' : cSt) (T' : rSt) (h' ad' : Nat → Nat) (md' : Nat → Int32) (H1 : Heap) (locs1 : List Loc), h' 0 = h 0 → lwI D cI cZ cO a e0 s n' o' S' T' h' ad' md' H1 locs1 → Rel n' o' S' T' → W p l e room_1 s m #[Value.ref b] below meth c H1 locs1 (cells + 3) (slots + 43) Q (F0 m 567 ls [])) : W p l e room_1 s m #[Value.ref b] below meth c H locs cells slots Q (F0 m 518 ls []) := by
  have hx := F.1
  have hb := F.2.1
  have hts := F.2.2.2.2.1
  have hnd := F.2.2.2.2.2.2.2.2.2.2.2.1
  have e := s_left hR
  refine lv_aload_n hx hb dL_law_518 rfl (lv_at hl 2 rfl) ?_
  refine l_cR (As := []) (rest := []) F I (c_X1_left l D cO h ad md n o I.1 S hR.cok) (cwV 0 hts gL_law_X1_left rfl rfl rfl (by decide +kernel) ⟨Nat.le_of_ble_eq_true rfl, Nat.le_of_ble_eq_true rfl⟩) rfl hl.1 rfl (Nat.le_of_ble_eq_true rfl) dL_law_519 ⟨by omega, by omega⟩ ?_
  refine lv_aload_n hx hb dL_law_522 rfl (lv_at hl 1 rfl) ?_
  refine l_rR (As := []) (rest := [.int (C_left n o S)]) F I (c_X2_left l D cI cZ a hnd n T hR.rok) (cwV 0 hts gL_law_X2_left rfl rfl rfl (by decide +kernel) ⟨Nat.le_of_ble_eq_true rfl, Nat.le_of_ble_eq_true rfl⟩) rfl hl.1 rfl (Nat.le_of_ble_eq_true rfl) dL_law_523 ⟨by omega, by omega⟩ ?_
  refine lv_icmp_eq (tgt := 567) hx hb dL_law_526 (by decide) (fun _ => ?_) (fun z => absurd e z)
  exact W.widen (k := cells + 3) (n := slots + 43) (by omega) (by omega) (kk _ _ _ _ _ _ _ _ _ rfl I hR)

set_option maxHeartbeats 4000000 in
set_option maxRecDepth 100000 in
theorem lwc_named {p : Program} {l : Launch} {e : Env} {s : State} {m : MethodId} {below : List Frame} {meth : Method} {c : Code} {H : Heap} {locs : List Loc} {cells slots : Nat} {Q : State → Prop} {b L i : Nat} {xs : Nat → Int32} {D : va_G} {cI cZ cO : ClassId} {a : Nat → Nat} {e0 mi : Nat} {n : Nat} {o : Nat → Nat} {S : cSt} {T : rSt} {h ad : Nat → Nat} {md : Nat → Int32} {ls : Array Slot} (F : lwF p s m c b L xs D cI cZ cO a e0 mi) (I : lwI D cI cZ cO a e0 s n o S T h ad md H locs) (hR : Rel n o S T) (hL : L ≤ 2560) (hi : i + 5 ≤ L) (hl : lv_has ls 4 [(3, .int (nI i)), (2, .ref (a 0)), (1, .ref (h 0)), (0, .ref b)]) (hc : cells + 3 ≤ 1200000 ∧ slots + 43 ≤ 5502250)
    (kk : ∀ (n' : Nat) (o' : Nat → Nat) (S' : cSt) (T' : rSt) (h' ad' : Nat → Nat) (md' : Nat → Int32) (H1 : Heap) (locs1 : List Loc), h' 0 = h 0 → lwI D cI cZ cO a e0 s n' o' S' T' h' ad' md' H1 locs1 → Rel n' o' S' T' → W p l e room_1 s m #[Value.ref b] below meth c H1 locs1 (cells + 3) (slots + 43) Q (F0 m 567 ls [])) : W p l e room_1 s m #[Value.ref b] below meth c H locs cells slots Q (F0 m 531 ls []) := by
  have hx := F.1
  have hb := F.2.1
  have hts := F.2.2.2.2.1
  have hnd := F.2.2.2.2.2.2.2.2.2.2.2.1
  have e := s_named hR
  refine lv_aload_n hx hb dL_law_531 rfl (lv_at hl 2 rfl) ?_
  refine l_cR (As := []) (rest := []) F I (c_X1_named l D cO h ad md n o I.1 S hR.cok) (cwV 0 hts gL_law_X1_named rfl rfl rfl (by decide +kernel) ⟨Nat.le_of_ble_eq_true rfl, Nat.le_of_ble_eq_true rfl⟩) rfl hl.1 rfl (Nat.le_of_ble_eq_true rfl) dL_law_532 ⟨by omega, by omega⟩ ?_
  refine lv_aload_n hx hb dL_law_535 rfl (lv_at hl 1 rfl) ?_
  refine l_rR (As := []) (rest := [.int (C_named n o S)]) F I (c_X2_named l D cI cZ a hnd n T hR.rok) (cwV 0 hts gL_law_X2_named rfl rfl rfl (by decide +kernel) ⟨Nat.le_of_ble_eq_true rfl, Nat.le_of_ble_eq_true rfl⟩) rfl hl.1 rfl (Nat.le_of_ble_eq_true rfl) dL_law_536 ⟨by omega, by omega⟩ ?_
  refine lv_icmp_eq (tgt := 567) hx hb dL_law_539 (by decide) (fun _ => ?_) (fun z => absurd e z)
  exact W.widen (k := cells + 3) (n := slots + 43) (by omega) (by omega) (kk _ _ _ _ _ _ _ _ _ rfl I hR)

set_option maxHeartbeats 4000000 in
set_option maxRecDepth 100000 in
theorem lwc_figure {p : Program} {l : Launch} {e : Env} {s : State} {m : MethodId} {below : List Frame} {meth : Method} {c : Code} {H : Heap} {locs : List Loc} {cells slots : Nat} {Q : State → Prop} {b L i : Nat} {xs : Nat → Int32} {D : va_G} {cI cZ cO : ClassId} {a : Nat → Nat} {e0 mi : Nat} {n : Nat} {o : Nat → Nat} {S : cSt} {T : rSt} {h ad : Nat → Nat} {md : Nat → Int32} {ls : Array Slot} (F : lwF p s m c b L xs D cI cZ cO a e0 mi) (I : lwI D cI cZ cO a e0 s n o S T h ad md H locs) (hR : Rel n o S T) (hL : L ≤ 2560) (hi : i + 5 ≤ L) (hl : lv_has ls 4 [(3, .int (nI i)), (2, .ref (a 0)), (1, .ref (h 0)), (0, .ref b)]) (hc : cells + 3 ≤ 1200000 ∧ slots + 43 ≤ 5502250)
    (kk : ∀ (n' : Nat) (o' : Nat → Nat) (S' : cSt) (T' : rSt) (h' ad' : Nat → Nat) (md' : Nat → Int32) (H1 : Heap) (locs1 : List Loc), h' 0 = h 0 → lwI D cI cZ cO a e0 s n' o' S' T' h' ad' md' H1 locs1 → Rel n' o' S' T' → W p l e room_1 s m #[Value.ref b] below meth c H1 locs1 (cells + 3) (slots + 43) Q (F0 m 567 ls [])) : W p l e room_1 s m #[Value.ref b] below meth c H locs cells slots Q (F0 m 544 ls []) := by
  have hx := F.1
  have hb := F.2.1
  have hts := F.2.2.2.2.1
  have hnd := F.2.2.2.2.2.2.2.2.2.2.2.1
  have e := s_figure hR (xs (i + 1))
  refine lv_aload_n hx hb dL_law_544 rfl (lv_at hl 2 rfl) ?_
  refine l_arg F I hL hl (k := 1) rfl (by omega) dL_law_545 dL_law_546 dL_law_547 dL_law_548 dL_law_549 ?_
  refine l_cR (As := [.int (xs (i + 1))]) (rest := []) F I (c_X1_figure l D cO h ad md n o I.1 S hR.cok (xs (i + 1))) (cwV 1 hts gL_law_X1_figure rfl rfl rfl (by decide +kernel) ⟨Nat.le_of_ble_eq_true rfl, Nat.le_of_ble_eq_true rfl⟩) rfl hl.1 rfl (Nat.le_of_ble_eq_true rfl) dL_law_550 ⟨by omega, by omega⟩ ?_
  refine lv_aload_n hx hb dL_law_553 rfl (lv_at hl 1 rfl) ?_
  refine l_arg F I hL hl (k := 1) rfl (by omega) dL_law_554 dL_law_555 dL_law_556 dL_law_557 dL_law_558 ?_
  refine l_rR (As := [.int (xs (i + 1))]) (rest := [.int (C_figure n o S (xs (i + 1)))]) F I (c_X2_figure l D cI cZ a hnd n T hR.rok (xs (i + 1))) (cwV 1 hts gL_law_X2_figure rfl rfl rfl (by decide +kernel) ⟨Nat.le_of_ble_eq_true rfl, Nat.le_of_ble_eq_true rfl⟩) rfl hl.1 rfl (Nat.le_of_ble_eq_true rfl) dL_law_559 ⟨by omega, by omega⟩ ?_
  refine lv_icmp_eq (tgt := 567) hx hb dL_law_562 (by decide) (fun _ => ?_) (fun z => absurd e z)
  exact W.widen (k := cells + 3) (n := slots + 43) (by omega) (by omega) (kk _ _ _ _ _ _ _ _ _ rfl I hR)

set_option maxHeartbeats 4000000 in
set_option maxRecDepth 100000 in
theorem lwc_device {p : Program} {l : Launch} {e : Env} {s : State} {m : MethodId} {below : List Frame} {meth : Method} {c : Code} {H : Heap} {locs : List Loc} {cells slots : Nat} {Q : State → Prop} {b L i : Nat} {xs : Nat → Int32} {D : va_G} {cI cZ cO : ClassId} {a : Nat → Nat} {e0 mi : Nat} {n : Nat} {o : Nat → Nat} {S : cSt} {T : rSt} {h ad : Nat → Nat} {md : Nat → Int32} {ls : Array Slot} (F : lwF p s m c b L xs D cI cZ cO a e0 mi) (I : lwI D cI cZ cO a e0 s n o S T h ad md H locs) (hR : Rel n o S T) (hL : L ≤ 2560) (hi : i + 5 ≤ L) (hl : lv_has ls 4 [(3, .int (nI i)), (2, .ref (a 0)), (1, .ref (h 0)), (0, .ref b)]) (hc : cells + 3 ≤ 1200000 ∧ slots + 43 ≤ 5502250)
    (kk : ∀ (n' : Nat) (o' : Nat → Nat) (S' : cSt) (T' : rSt) (h' ad' : Nat → Nat) (md' : Nat → Int32) (H1 : Heap) (locs1 : List Loc), h' 0 = h 0 → lwI D cI cZ cO a e0 s n' o' S' T' h' ad' md' H1 locs1 → Rel n' o' S' T' → W p l e room_1 s m #[Value.ref b] below meth c H1 locs1 (cells + 3) (slots + 43) Q (F0 m 567 ls [])) : W p l e room_1 s m #[Value.ref b] below meth c H locs cells slots Q (F0 m 124 ls []) := by
  have hx := F.1
  have hb := F.2.1
  have hts := F.2.2.2.2.1
  have hnd := F.2.2.2.2.2.2.2.2.2.2.2.1
  have e := s_device hR (xs (i + 1)) (xs (i + 2)) (xs (i + 3)) (xs (i + 4))
  refine lv_aload_n hx hb dL_law_124 rfl (lv_at hl 2 rfl) ?_
  refine l_arg F I hL hl (k := 1) rfl (by omega) dL_law_125 dL_law_126 dL_law_127 dL_law_128 dL_law_129 ?_
  refine l_arg F I hL hl (k := 2) rfl (by omega) dL_law_130 dL_law_131 dL_law_132 dL_law_133 dL_law_134 ?_
  refine l_arg F I hL hl (k := 3) rfl (by omega) dL_law_135 dL_law_136 dL_law_137 dL_law_138 dL_law_139 ?_
  refine l_arg F I hL hl (k := 4) rfl (by omega) dL_law_140 dL_law_141 dL_law_142 dL_law_143 dL_law_144 ?_
  refine l_cD (xs (i + 1)) (xs (i + 2)) (xs (i + 3)) (xs (i + 4)) (rest := []) F I hR.cok (cwV 4 hts gL_law_X1_device rfl rfl rfl (by decide +kernel) ⟨Nat.le_of_ble_eq_true rfl, Nat.le_of_ble_eq_true rfl⟩) hl.1 rfl (Nat.le_of_ble_eq_true rfl) dL_law_145 hc (fun h' ad' md' H1 locs1 h0 I => ?_)
  rw [← h0] at hl
  refine lv_aload_n hx hb dL_law_148 rfl (lv_at hl 1 rfl) ?_
  refine l_arg F I hL hl (k := 1) rfl (by omega) dL_law_149 dL_law_150 dL_law_151 dL_law_152 dL_law_153 ?_
  refine l_arg F I hL hl (k := 2) rfl (by omega) dL_law_154 dL_law_155 dL_law_156 dL_law_157 dL_law_158 ?_
  refine l_arg F I hL hl (k := 3) rfl (by omega) dL_law_159 dL_law_160 dL_law_161 dL_law_162 dL_law_163 ?_
  refine l_arg F I hL hl (k := 4) rfl (by omega) dL_law_164 dL_law_165 dL_law_166 dL_law_167 dL_law_168 ?_
  refine l_rI (As := [.int (xs (i + 1)), .int (xs (i + 2)), .int (xs (i + 3)), .int (xs (i + 4))]) (rest := [.int (C_device n o S (xs (i + 1)) (xs (i + 2)) (xs (i + 3)) (xs (i + 4))).1]) F I (c_X2_device l D cI cZ a hnd n T hR.rok (xs (i + 1)) (xs (i + 2)) (xs (i + 3)) (xs (i + 4))) (cwV 4 hts gL_law_X2_device rfl rfl rfl (by decide +kernel) ⟨Nat.le_of_ble_eq_true rfl, Nat.le_of_ble_eq_true rfl⟩) rfl hl.1 rfl (Nat.le_of_ble_eq_true rfl) dL_law_169 ⟨by omega, by omega⟩ (fun H1 locs1 I => ?_)
  refine lv_icmp_eq (tgt := 567) hx hb dL_law_172 (by decide) (fun _ => ?_) (fun z => absurd e.1 z)
  exact kk _ _ _ _ _ _ _ _ _ h0 I e.2

set_option maxHeartbeats 4000000 in
set_option maxRecDepth 100000 in
theorem lwc_waker {p : Program} {l : Launch} {e : Env} {s : State} {m : MethodId} {below : List Frame} {meth : Method} {c : Code} {H : Heap} {locs : List Loc} {cells slots : Nat} {Q : State → Prop} {b L i : Nat} {xs : Nat → Int32} {D : va_G} {cI cZ cO : ClassId} {a : Nat → Nat} {e0 mi : Nat} {n : Nat} {o : Nat → Nat} {S : cSt} {T : rSt} {h ad : Nat → Nat} {md : Nat → Int32} {ls : Array Slot} (F : lwF p s m c b L xs D cI cZ cO a e0 mi) (I : lwI D cI cZ cO a e0 s n o S T h ad md H locs) (hR : Rel n o S T) (hL : L ≤ 2560) (hi : i + 5 ≤ L) (hl : lv_has ls 4 [(3, .int (nI i)), (2, .ref (a 0)), (1, .ref (h 0)), (0, .ref b)]) (hc : cells + 3 ≤ 1200000 ∧ slots + 43 ≤ 5502250)
    (kk : ∀ (n' : Nat) (o' : Nat → Nat) (S' : cSt) (T' : rSt) (h' ad' : Nat → Nat) (md' : Nat → Int32) (H1 : Heap) (locs1 : List Loc), h' 0 = h 0 → lwI D cI cZ cO a e0 s n' o' S' T' h' ad' md' H1 locs1 → Rel n' o' S' T' → W p l e room_1 s m #[Value.ref b] below meth c H1 locs1 (cells + 3) (slots + 43) Q (F0 m 567 ls [])) : W p l e room_1 s m #[Value.ref b] below meth c H locs cells slots Q (F0 m 223 ls []) := by
  have hx := F.1
  have hb := F.2.1
  have hts := F.2.2.2.2.1
  have hnd := F.2.2.2.2.2.2.2.2.2.2.2.1
  refine lv_aload_n hx hb dL_law_223 rfl (lv_at hl 2 rfl) ?_
  refine l_arg F I hL hl (k := 1) rfl (by omega) dL_law_224 dL_law_225 dL_law_226 dL_law_227 dL_law_228 ?_
  refine l_arg F I hL hl (k := 2) rfl (by omega) dL_law_229 dL_law_230 dL_law_231 dL_law_232 dL_law_233 ?_
  refine lv_if_eq (tgt := 241) hx hb dL_law_234 (by decide) (fun c1 => ?_) (fun c1 => ?_)
  · refine lv_iconst (v := 0) hx hb dL_law_241 (by decide) ?_
    have e := s_waker hR (xs (i + 1)) 0
    refine l_cI (As := [.int (xs (i + 1)), .int 0]) (rest := []) F I (c_X1_waker l D cO h ad md n o I.1 S hR.cok (xs (i + 1)) 0 (Or.inl rfl)) (cwV 2 hts gL_law_X1_waker rfl rfl rfl (by decide +kernel) ⟨Nat.le_of_ble_eq_true rfl, Nat.le_of_ble_eq_true rfl⟩) rfl hl.1 rfl (Nat.le_of_ble_eq_true rfl) dL_law_242 ⟨by omega, by omega⟩ (fun H1 locs1 I => ?_)
    refine lv_aload_n hx hb dL_law_245 rfl (lv_at hl 1 rfl) ?_
    refine l_arg F I hL hl (k := 1) rfl (by omega) dL_law_246 dL_law_247 dL_law_248 dL_law_249 dL_law_250 ?_
    refine l_arg F I hL hl (k := 2) rfl (by omega) dL_law_251 dL_law_252 dL_law_253 dL_law_254 dL_law_255 ?_
    refine lv_if_eq (tgt := 263) hx hb dL_law_256 (by decide) (fun c2 => ?_) (fun c2 => absurd c1 c2)
    refine lv_iconst (v := 0) hx hb dL_law_263 (by decide) ?_
    refine l_rI (As := [.int (xs (i + 1)), .int 0]) (rest := [.int (C_waker n o S (xs (i + 1)) 0).1]) F I (c_X2_waker l D cI cZ a hnd n T hR.rok (xs (i + 1)) 0 (Or.inl rfl)) (cwV 2 hts gL_law_X2_waker rfl rfl rfl (by decide +kernel) ⟨Nat.le_of_ble_eq_true rfl, Nat.le_of_ble_eq_true rfl⟩) rfl hl.1 rfl (Nat.le_of_ble_eq_true rfl) dL_law_264 ⟨by omega, by omega⟩ (fun H1 locs1 I => ?_)
    refine lv_icmp_eq (tgt := 567) hx hb dL_law_267 (by decide) (fun _ => ?_) (fun z => absurd e.1 z)
    exact W.widen (k := cells + 3) (n := slots + 43) (by omega) (by omega) (kk _ _ _ _ _ _ _ _ _ rfl I e.2)
  · refine lv_iconst (v := 1) hx hb dL_law_237 (by decide) ?_
    refine lv_goto (tgt := 242) hx hb dL_law_238 (by decide) ?_
    have e := s_waker hR (xs (i + 1)) 1
    refine l_cI (As := [.int (xs (i + 1)), .int 1]) (rest := []) F I (c_X1_waker l D cO h ad md n o I.1 S hR.cok (xs (i + 1)) 1 (Or.inr rfl)) (cwV 2 hts gL_law_X1_waker rfl rfl rfl (by decide +kernel) ⟨Nat.le_of_ble_eq_true rfl, Nat.le_of_ble_eq_true rfl⟩) rfl hl.1 rfl (Nat.le_of_ble_eq_true rfl) dL_law_242 ⟨by omega, by omega⟩ (fun H1 locs1 I => ?_)
    refine lv_aload_n hx hb dL_law_245 rfl (lv_at hl 1 rfl) ?_
    refine l_arg F I hL hl (k := 1) rfl (by omega) dL_law_246 dL_law_247 dL_law_248 dL_law_249 dL_law_250 ?_
    refine l_arg F I hL hl (k := 2) rfl (by omega) dL_law_251 dL_law_252 dL_law_253 dL_law_254 dL_law_255 ?_
    refine lv_if_eq (tgt := 263) hx hb dL_law_256 (by decide) (fun c2 => absurd c2 c1) (fun c2 => ?_)
    refine lv_iconst (v := 1) hx hb dL_law_259 (by decide) ?_
    refine lv_goto (tgt := 264) hx hb dL_law_260 (by decide) ?_
    refine l_rI (As := [.int (xs (i + 1)), .int 1]) (rest := [.int (C_waker n o S (xs (i + 1)) 1).1]) F I (c_X2_waker l D cI cZ a hnd n T hR.rok (xs (i + 1)) 1 (Or.inr rfl)) (cwV 2 hts gL_law_X2_waker rfl rfl rfl (by decide +kernel) ⟨Nat.le_of_ble_eq_true rfl, Nat.le_of_ble_eq_true rfl⟩) rfl hl.1 rfl (Nat.le_of_ble_eq_true rfl) dL_law_264 ⟨by omega, by omega⟩ (fun H1 locs1 I => ?_)
    refine lv_icmp_eq (tgt := 567) hx hb dL_law_267 (by decide) (fun _ => ?_) (fun z => absurd e.1 z)
    exact W.widen (k := cells + 3) (n := slots + 43) (by omega) (by omega) (kk _ _ _ _ _ _ _ _ _ rfl I e.2)

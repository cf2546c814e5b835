set_option maxRecDepth 100000 in
set_option maxHeartbeats 4000000 in
theorem lc_0 {p : Program} {l : Launch} {e : Env} {s : State} {m : MethodId} {below : List Frame} {meth : Method} {c : Code} {Z : GZ} {Y : YZ} {A : Nat → Prop} {Q : State → Prop} {cells slots b L q : Nat} {xs : Nat → Int32} {i : Int32} {a b2 : Nat → Nat} {o : OX6} {r : OX7} {g : Nat → Int64} (C : Cx p s m #[.ref b] c code 7 RL Z A) (hX : XT Y A s s.heap) (hN : XNo s) (hst : l.stackTraces = false) (hSc : va_X b L xs s s.heap) (hbl : b < s.heap.size) (hbA : ¬ A b) (hR1 : cells + 3 ≤ room_1.cells) (hR2 : slots + 18 ≤ room_1.slots) (h1 : vp_in (i + 1) L) (h2 : vp_in (i + 2) L) (h3 : vp_in (i + 3) L) (h4 : vp_in (i + 4) L) (h5 : vp_in (i + 5) L) {res : (Nat ⊕ Int32) × OX6} {res2 : Int32 × OX7} (H1 : fX6_append o (xs (ix (i + 1))) (xs (ix (i + 2))) (xs (ix (i + 3))) (xs (ix (i + 4))) (xs (ix (i + 5))) = some res) (H2 : fX7_append r (xs (ix (i + 1))) (xs (ix (i + 2))) (xs (ix (i + 3))) (xs (ix (i + 4))) (xs (ix (i + 5))) = some res2) (Hk : ∀ k, res.1 = .inl k → k = 0) (H3 : q7_thrown (mh_append r res2.2) = hcd [0] res.1) (H4 : ∀ v, res.1 = .inr v → res2.1 = v) (K : Gw p l e room_1 s m #[.ref b] below meth c 7 Z A Q (cells + 3) (slots + 18) (2645) [(0, .ref b), (1, .ref (a 0)), (2, .ref (b2 0)), (3, .ref q), (4, .int i)] [] (WS Z a b2 q (mg_append o res.2) (mh_append r res2.2) (outI g res.1))) : Gw p l e room_1 s m #[.ref b] below meth c 7 Z A Q (cells) (slots) (252) [(0, .ref b), (1, .ref (a 0)), (2, .ref (b2 0)), (3, .ref q), (4, .int i)] [] (WS Z a b2 q o r g) := by
  refine g_aload_n C dL_law_252 rfl 1 rfl ?_
  refine g_aload_n C dL_law_253 rfl 0 rfl ?_
  refine g_iload C dL_law_254 4 rfl ?_
  refine g_iconst C 1 dL_law_256 (by decide) ?_
  refine g_iadd C dL_law_257 ?_
  refine g_sld C hSc hbl hbA h1 dL_law_258 ?_
  refine g_aload_n C dL_law_259 rfl 0 rfl ?_
  refine g_iload C dL_law_260 4 rfl ?_
  refine g_iconst C 2 dL_law_262 (by decide) ?_
  refine g_iadd C dL_law_263 ?_
  refine g_sld C hSc hbl hbA h2 dL_law_264 ?_
  refine g_aload_n C dL_law_265 rfl 0 rfl ?_
  refine g_iload C dL_law_266 4 rfl ?_
  refine g_iconst C 3 dL_law_268 (by decide) ?_
  refine g_iadd C dL_law_269 ?_
  refine g_sld C hSc hbl hbA h3 dL_law_270 ?_
  refine g_aload_n C dL_law_271 rfl 0 rfl ?_
  refine g_iload C dL_law_272 4 rfl ?_
  refine g_iconst C 4 dL_law_274 (by decide) ?_
  refine g_iadd C dL_law_275 ?_
  refine g_sld C hSc hbl hbA h4 dL_law_276 ?_
  refine g_aload_n C dL_law_277 rfl 0 rfl ?_
  refine g_iload C dL_law_278 4 rfl ?_
  refine g_iconst C 5 dL_law_280 (by decide) ?_
  refine g_iadd C dL_law_281 ?_
  refine g_sld C hSc hbl hbA h5 dL_law_282 ?_
  refine g_aload_n C dL_law_283 rfl 3 rfl ?_
  refine gx_callL C hX hN (kL_append l hst Z Y a q o g (xs (ix (i + 1))) (xs (ix (i + 2))) (xs (ix (i + 3))) (xs (ix (i + 4))) (xs (ix (i + 5))) res H1 Hk) mw_3_69 mw_1_0 mw_3_68 ⟨by decide +kernel, by decide +kernel⟩ (n := 7) (by decide +kernel) 133 mw_3_67 rfl [0, 1, 2, 3, 4, 5, 6, 7, 8, 9, 10, 11, 12, 13, 14, 15, 16, 17, 18, 19, 20, 21, 22, 23, 24, 25, 26, 27, 28, 29, 30, 31, 32, 33, 34, 35, 36, 37, 38, 39, 40, 41, 42, 43, 44, 45] [46, 47, 48, 49, 50, 51, 52, 53, 54, 55, 56, 57, 58, 59, 60] [15, 16, 17, 18, 19, 20, 21, 22, 23, 24, 25, 26, 27, 28, 29, 30, 31, 32, 33, 34, 35, 36, 37, 38, 39, 40, 41, 42, 43, 44, 45, 46, 47, 48, 49, 50, 51, 52, 53, 54, 55, 56, 57, 58, 59, 60, 0, 1, 2, 3, 4, 5, 6, 7, 8, 9, 10, 11, 12, 13, 14] (wr := wX7 Z b2 r) rfl rfl (by decide) (by decide) (by decide) (WS Z a b2 q (mg_append o res.2) r (outI g res.1)) rfl (by decide) (Nat.le_of_ble_eq_true rfl) (Nat.le_of_ble_eq_true rfl) (Nat.le_of_ble_eq_true rfl) ⟨by omega, by omega⟩ rfl dL_law_284 ?_
  refine g_istore C dL_law_287 (by decide) [(5, .int (hcd [0] res.1)), (0, .ref b), (1, .ref (a 0)), (2, .ref (b2 0)), (3, .ref q), (4, .int i)] rfl ?_
  refine g_aload_n C dL_law_289 rfl 3 rfl ?_
  refine g_aload_n C dL_law_290 rfl 1 rfl ?_
  refine g_iload C dL_law_291 5 rfl ?_
  refine g_iconst C 1 dL_law_293 (by decide) ?_
  refine g_iadd C dL_law_294 ?_
  refine g_sld C hSc hbl hbA h1 dL_law_295 ?_
  refine g_aload_n C dL_law_296 rfl 1 rfl ?_
  refine g_iload C dL_law_297 5 rfl ?_
  refine g_iconst C 2 dL_law_299 (by decide) ?_
  refine g_iadd C dL_law_300 ?_
  refine g_sld C hSc hbl hbA h2 dL_law_301 ?_
  refine g_aload_n C dL_law_302 rfl 1 rfl ?_
  refine g_iload C dL_law_303 5 rfl ?_
  refine g_iconst C 3 dL_law_305 (by decide) ?_
  refine g_iadd C dL_law_306 ?_
  refine g_sld C hSc hbl hbA h3 dL_law_307 ?_
  refine g_aload_n C dL_law_308 rfl 1 rfl ?_
  refine g_iload C dL_law_309 5 rfl ?_
  refine g_iconst C 4 dL_law_311 (by decide) ?_
  refine g_iadd C dL_law_312 ?_
  refine g_sld C hSc hbl hbA h4 dL_law_313 ?_
  refine g_aload_n C dL_law_314 rfl 1 rfl ?_
  refine g_iload C dL_law_315 5 rfl ?_
  refine g_iconst C 5 dL_law_317 (by decide) ?_
  refine g_iadd C dL_law_318 ?_
  refine g_sld C hSc hbl hbA h5 dL_law_319 ?_
  refine g_callVi C (kX7_append l Z (b2 0) (b2 1) (b2 2) (b2 3) (b2 4) (b2 5) (b2 6) (b2 7) (b2 8) (b2 9) (b2 10) (b2 11) (b2 12) (b2 13) (b2 14) r (xs (ix (i + 1))) (xs (ix (i + 2))) (xs (ix (i + 3))) (xs (ix (i + 4))) (xs (ix (i + 5))) res2 H2) 0 rfl (ci := 7) rfl rfl myX7_append 138 mw_5_174 rfl [46, 47] [0, 1, 2, 3, 4, 5, 6, 7, 8, 9, 10, 11, 12, 13, 14, 15, 16, 17, 18, 19, 20, 21, 22, 23, 24, 25, 26, 27, 28, 29, 30, 31, 32, 33, 34, 35, 36, 37, 38, 39, 40, 41, 42, 43, 44, 45, 48, 49, 50, 51, 52, 53, 54, 55, 56, 57, 58, 59, 60] [0, 1, 2, 3, 4, 5, 6, 7, 8, 9, 10, 11, 12, 13, 14, 15, 16, 17, 18, 19, 20, 21, 22, 23, 24, 25, 26, 27, 28, 29, 30, 31, 32, 33, 34, 35, 36, 37, 38, 39, 40, 41, 42, 43, 44, 45, 59, 60, 46, 47, 48, 49, 50, 51, 52, 53, 54, 55, 56, 57, 58] (wr := ((wX6 Z a (mg_append o res.2) ++ [(q, .inl (zJ Z, 1, .inr (.inl (outI g res.1))))]) ++ [((b2 2), .inl (zI Z, 12, .inl (q7_now r))), ((b2 3), .inl (zI Z, 12, .inl (q7_made r))), ((b2 4), .inl (zI Z, 96, .inl (q7_history r))), ((b2 5), .inl (zI Z, 12, .inl (q7_saved r))), ((b2 6), .inl (zI Z, 256, .inl (q7_closed r))), ((b2 7), .inl (zI Z, 256, .inl (q7_faces r))), ((b2 8), .inl (zI Z, 256, .inl (q7_rankOf r))), ((b2 9), .inl (zI Z, 256, .inl (q7_placeOf r))), ((b2 10), .inl (zI Z, 256, .inl (q7_counted r))), ((b2 11), .inl (zI Z, 10, .inl (q7_steps r))), ((b2 12), .inl (zI Z, 12, .inl (q7_onto r))), ((b2 13), .inl (zI Z, 8, .inl (q7_goes r))), ((b2 14), .inl (zI Z, 8, .inl (q7_firstImage r)))])) rfl rfl (by decide) (by decide) (by decide) (WS Z a b2 q (mg_append o res.2) (mh_append r res2.2) (outI g res.1)) rfl (by decide) (Nat.le_of_ble_eq_true rfl) (Nat.le_of_ble_eq_true rfl) (Nat.le_of_ble_eq_true rfl) ⟨by omega, by omega⟩ rfl dL_law_320 ?_
  refine g_istore C dL_law_323 (by decide) [(6, .int res2.1), (5, .int (hcd [0] res.1)), (0, .ref b), (1, .ref (a 0)), (2, .ref (b2 0)), (3, .ref q), (4, .int i)] rfl ?_
  refine g_aload_n C dL_law_325 rfl 4 rfl ?_
  refine g_callVi C (kX7_thrown l Z (b2 0) (b2 1) (b2 2) (b2 3) (b2 4) (b2 5) (b2 6) (b2 7) (b2 8) (b2 9) (b2 10) (b2 11) (b2 12) (b2 13) (b2 14) (mh_append r res2.2) (q7_thrown (mh_append r res2.2)) rfl) 0 rfl (ci := 7) rfl rfl myX7_thrown 139 mw_5_170 rfl [46] [0, 1, 2, 3, 4, 5, 6, 7, 8, 9, 10, 11, 12, 13, 14, 15, 16, 17, 18, 19, 20, 21, 22, 23, 24, 25, 26, 27, 28, 29, 30, 31, 32, 33, 34, 35, 36, 37, 38, 39, 40, 41, 42, 43, 44, 45, 47, 48, 49, 50, 51, 52, 53, 54, 55, 56, 57, 58, 59, 60] [0, 1, 2, 3, 4, 5, 6, 7, 8, 9, 10, 11, 12, 13, 14, 15, 16, 17, 18, 19, 20, 21, 22, 23, 24, 25, 26, 27, 28, 29, 30, 31, 32, 33, 34, 35, 36, 37, 38, 39, 40, 41, 42, 43, 44, 45, 60, 46, 47, 48, 49, 50, 51, 52, 53, 54, 55, 56, 57, 58, 59] (wr := ((wX6 Z a (mg_append o res.2) ++ [(q, .inl (zJ Z, 1, .inr (.inl (outI g res.1))))]) ++ [((b2 1), .inl (zI Z, 300, .inl (q7_buffer (mh_append r res2.2)))), ((b2 2), .inl (zI Z, 12, .inl (q7_now (mh_append r res2.2)))), ((b2 3), .inl (zI Z, 12, .inl (q7_made (mh_append r res2.2)))), ((b2 4), .inl (zI Z, 96, .inl (q7_history (mh_append r res2.2)))), ((b2 5), .inl (zI Z, 12, .inl (q7_saved (mh_append r res2.2)))), ((b2 6), .inl (zI Z, 256, .inl (q7_closed (mh_append r res2.2)))), ((b2 7), .inl (zI Z, 256, .inl (q7_faces (mh_append r res2.2)))), ((b2 8), .inl (zI Z, 256, .inl (q7_rankOf (mh_append r res2.2)))), ((b2 9), .inl (zI Z, 256, .inl (q7_placeOf (mh_append r res2.2)))), ((b2 10), .inl (zI Z, 256, .inl (q7_counted (mh_append r res2.2)))), ((b2 11), .inl (zI Z, 10, .inl (q7_steps (mh_append r res2.2)))), ((b2 12), .inl (zI Z, 12, .inl (q7_onto (mh_append r res2.2)))), ((b2 13), .inl (zI Z, 8, .inl (q7_goes (mh_append r res2.2)))), ((b2 14), .inl (zI Z, 8, .inl (q7_firstImage (mh_append r res2.2))))])) rfl rfl (by decide) (by decide) (by decide) (WS Z a b2 q (mg_append o res.2) (mh_append r res2.2) (outI g res.1)) rfl (by decide) (Nat.le_of_ble_eq_true rfl) (Nat.le_of_ble_eq_true rfl) (Nat.le_of_ble_eq_true rfl) ⟨by omega, by omega⟩ rfl dL_law_326 ?_
  refine g_iload C dL_law_329 1 rfl ?_
  refine g_icmp_eq C 336 dL_law_331 (by decide) (fun _ => ?_) (fun z => absurd H3 z)
  refine g_iload C dL_law_336 1 rfl ?_
  refine g_if_ne C 353 dL_law_338 (by decide) (fun c2 => ?_) (fun c2 => ?_)
  · skip
    refine g_goto C 2645 dL_law_353 (by decide) ?_
    refine g_lv [2, 3, 4, 5, 6] [(0, .ref b), (1, .ref (a 0)), (2, .ref (b2 0)), (3, .ref q), (4, .int i)] rfl ?_
    exact g_widen (cells + 3) (slots + 18) (by omega) (by omega) K
  · obtain ⟨v, hv⟩ := hcd_zero [0] (by decide) c2
    refine g_aload_n C dL_law_341 rfl 5 rfl ?_
    refine g_iconst C 0 dL_law_342 (by decide) ?_
    refine g_lald C 45 rfl (by decide) dL_law_343 ?_
    refine g_iload C dL_law_344 0 rfl ?_
    refine g_i2l C dL_law_346 ?_
    refine g_lcmp C dL_law_347 ?_
    refine g_if_eq C 353 dL_law_348 (by decide) (fun _ => ?_) (fun z => absurd (by rw [hv, H4 v hv, outI_at]; exact lcmp_self _) z)
    refine g_goto C 2645 dL_law_353 (by decide) ?_
    refine g_lv [2, 3, 4, 5, 6] [(0, .ref b), (1, .ref (a 0)), (2, .ref (b2 0)), (3, .ref q), (4, .int i)] rfl ?_
    exact g_widen (cells + 3) (slots + 18) (by omega) (by omega) K
set_option maxRecDepth 100000 in
set_option maxHeartbeats 4000000 in
theorem lc_1 {p : Program} {l : Launch} {e : Env} {s : State} {m : MethodId} {below : List Frame} {meth : Method} {c : Code} {Z : GZ} {Y : YZ} {A : Nat → Prop} {Q : State → Prop} {cells slots b L q : Nat} {xs : Nat → Int32} {i : Int32} {a b2 : Nat → Nat} {o : OX6} {r : OX7} {g : Nat → Int64} (C : Cx p s m #[.ref b] c code 7 RL Z A) (hX : XT Y A s s.heap) (hN : XNo s) (hst : l.stackTraces = false) (hSc : va_X b L xs s s.heap) (hbl : b < s.heap.size) (hbA : ¬ A b) (hR1 : cells + 3 ≤ room_1.cells) (hR2 : slots + 18 ≤ room_1.slots) (h1 : vp_in (i + 1) L) {res : (Nat ⊕ Int32) × OX6} {res2 : Int32 × OX7} (H1 : fX6_truncate o (xs (ix (i + 1))) = some res) (H2 : fX7_truncate r (xs (ix (i + 1))) = some res2) (Hk : ∀ k, res.1 = .inl k → k = 1) (H3 : q7_thrown (mh_truncate r res2.2) = hcd [1] res.1) (H4 : ∀ v, res.1 = .inr v → res2.1 = v) (K : Gw p l e room_1 s m #[.ref b] below meth c 7 Z A Q (cells + 3) (slots + 18) (2645) [(0, .ref b), (1, .ref (a 0)), (2, .ref (b2 0)), (3, .ref q), (4, .int i)] [] (WS Z a b2 q (mg_truncate o res.2) (mh_truncate r res2.2) (outI g res.1))) : Gw p l e room_1 s m #[.ref b] below meth c 7 Z A Q (cells) (slots) (356) [(0, .ref b), (1, .ref (a 0)), (2, .ref (b2 0)), (3, .ref q), (4, .int i)] [] (WS Z a b2 q o r g) := by
  refine g_aload_n C dL_law_356 rfl 1 rfl ?_
  refine g_aload_n C dL_law_357 rfl 0 rfl ?_
  refine g_iload C dL_law_358 4 rfl ?_
  refine g_iconst C 1 dL_law_360 (by decide) ?_
  refine g_iadd C dL_law_361 ?_
  refine g_sld C hSc hbl hbA h1 dL_law_362 ?_
  refine g_aload_n C dL_law_363 rfl 3 rfl ?_
  refine gx_callL C hX hN (kL_truncate l hst Z Y a q o g (xs (ix (i + 1))) res H1 Hk) mw_3_148 mw_1_0 mw_3_147 ⟨by decide +kernel, by decide +kernel⟩ (n := 3) (by decide +kernel) 142 mw_3_146 rfl [0, 1, 2, 3, 4, 5, 6, 7, 8, 9, 10, 11, 12, 13, 14, 15, 16, 17, 18, 19, 20, 21, 22, 23, 24, 25, 26, 27, 28, 29, 30, 31, 32, 33, 34, 35, 36, 37, 38, 39, 40, 41, 42, 43, 44, 45] [46, 47, 48, 49, 50, 51, 52, 53, 54, 55, 56, 57, 58, 59, 60] [15, 16, 17, 18, 19, 20, 21, 22, 23, 24, 25, 26, 27, 28, 29, 30, 31, 32, 33, 34, 35, 36, 37, 38, 39, 40, 41, 42, 43, 44, 45, 46, 47, 48, 49, 50, 51, 52, 53, 54, 55, 56, 57, 58, 59, 60, 0, 1, 2, 3, 4, 5, 6, 7, 8, 9, 10, 11, 12, 13, 14] (wr := wX7 Z b2 r) rfl rfl (by decide) (by decide) (by decide) (WS Z a b2 q (mg_truncate o res.2) r (outI g res.1)) rfl (by decide) (Nat.le_of_ble_eq_true rfl) (Nat.le_of_ble_eq_true rfl) (Nat.le_of_ble_eq_true rfl) ⟨by omega, by omega⟩ rfl dL_law_364 ?_
  refine g_istore C dL_law_367 (by decide) [(5, .int (hcd [1] res.1)), (0, .ref b), (1, .ref (a 0)), (2, .ref (b2 0)), (3, .ref q), (4, .int i)] rfl ?_
  refine g_aload_n C dL_law_369 rfl 3 rfl ?_
  refine g_aload_n C dL_law_370 rfl 1 rfl ?_
  refine g_iload C dL_law_371 5 rfl ?_
  refine g_iconst C 1 dL_law_373 (by decide) ?_
  refine g_iadd C dL_law_374 ?_
  refine g_sld C hSc hbl hbA h1 dL_law_375 ?_
  refine g_callVi C (kX7_truncate l Z (b2 0) (b2 1) (b2 2) (b2 3) (b2 4) (b2 5) (b2 6) (b2 7) (b2 8) (b2 9) (b2 10) (b2 11) (b2 12) (b2 13) (b2 14) r (xs (ix (i + 1))) res2 H2) 0 rfl (ci := 7) rfl rfl myX7_truncate 145 mw_5_185 rfl [46] [0, 1, 2, 3, 4, 5, 6, 7, 8, 9, 10, 11, 12, 13, 14, 15, 16, 17, 18, 19, 20, 21, 22, 23, 24, 25, 26, 27, 28, 29, 30, 31, 32, 33, 34, 35, 36, 37, 38, 39, 40, 41, 42, 43, 44, 45, 47, 48, 49, 50, 51, 52, 53, 54, 55, 56, 57, 58, 59, 60] [0, 1, 2, 3, 4, 5, 6, 7, 8, 9, 10, 11, 12, 13, 14, 15, 16, 17, 18, 19, 20, 21, 22, 23, 24, 25, 26, 27, 28, 29, 30, 31, 32, 33, 34, 35, 36, 37, 38, 39, 40, 41, 42, 43, 44, 45, 60, 46, 47, 48, 49, 50, 51, 52, 53, 54, 55, 56, 57, 58, 59] (wr := ((wX6 Z a (mg_truncate o res.2) ++ [(q, .inl (zJ Z, 1, .inr (.inl (outI g res.1))))]) ++ [((b2 1), .inl (zI Z, 300, .inl (q7_buffer r))), ((b2 2), .inl (zI Z, 12, .inl (q7_now r))), ((b2 3), .inl (zI Z, 12, .inl (q7_made r))), ((b2 4), .inl (zI Z, 96, .inl (q7_history r))), ((b2 5), .inl (zI Z, 12, .inl (q7_saved r))), ((b2 6), .inl (zI Z, 256, .inl (q7_closed r))), ((b2 7), .inl (zI Z, 256, .inl (q7_faces r))), ((b2 8), .inl (zI Z, 256, .inl (q7_rankOf r))), ((b2 9), .inl (zI Z, 256, .inl (q7_placeOf r))), ((b2 10), .inl (zI Z, 256, .inl (q7_counted r))), ((b2 11), .inl (zI Z, 10, .inl (q7_steps r))), ((b2 12), .inl (zI Z, 12, .inl (q7_onto r))), ((b2 13), .inl (zI Z, 8, .inl (q7_goes r))), ((b2 14), .inl (zI Z, 8, .inl (q7_firstImage r)))])) rfl rfl (by decide) (by decide) (by decide) (WS Z a b2 q (mg_truncate o res.2) (mh_truncate r res2.2) (outI g res.1)) rfl (by decide) (Nat.le_of_ble_eq_true rfl) (Nat.le_of_ble_eq_true rfl) (Nat.le_of_ble_eq_true rfl) ⟨by omega, by omega⟩ rfl dL_law_376 ?_
  refine g_istore C dL_law_379 (by decide) [(6, .int res2.1), (5, .int (hcd [1] res.1)), (0, .ref b), (1, .ref (a 0)), (2, .ref (b2 0)), (3, .ref q), (4, .int i)] rfl ?_
  refine g_aload_n C dL_law_381 rfl 4 rfl ?_
  refine g_callVi C (kX7_thrown l Z (b2 0) (b2 1) (b2 2) (b2 3) (b2 4) (b2 5) (b2 6) (b2 7) (b2 8) (b2 9) (b2 10) (b2 11) (b2 12) (b2 13) (b2 14) (mh_truncate r res2.2) (q7_thrown (mh_truncate r res2.2)) rfl) 0 rfl (ci := 7) rfl rfl myX7_thrown 139 mw_5_170 rfl [46] [0, 1, 2, 3, 4, 5, 6, 7, 8, 9, 10, 11, 12, 13, 14, 15, 16, 17, 18, 19, 20, 21, 22, 23, 24, 25, 26, 27, 28, 29, 30, 31, 32, 33, 34, 35, 36, 37, 38, 39, 40, 41, 42, 43, 44, 45, 47, 48, 49, 50, 51, 52, 53, 54, 55, 56, 57, 58, 59, 60] [0, 1, 2, 3, 4, 5, 6, 7, 8, 9, 10, 11, 12, 13, 14, 15, 16, 17, 18, 19, 20, 21, 22, 23, 24, 25, 26, 27, 28, 29, 30, 31, 32, 33, 34, 35, 36, 37, 38, 39, 40, 41, 42, 43, 44, 45, 60, 46, 47, 48, 49, 50, 51, 52, 53, 54, 55, 56, 57, 58, 59] (wr := ((wX6 Z a (mg_truncate o res.2) ++ [(q, .inl (zJ Z, 1, .inr (.inl (outI g res.1))))]) ++ [((b2 1), .inl (zI Z, 300, .inl (q7_buffer (mh_truncate r res2.2)))), ((b2 2), .inl (zI Z, 12, .inl (q7_now (mh_truncate r res2.2)))), ((b2 3), .inl (zI Z, 12, .inl (q7_made (mh_truncate r res2.2)))), ((b2 4), .inl (zI Z, 96, .inl (q7_history (mh_truncate r res2.2)))), ((b2 5), .inl (zI Z, 12, .inl (q7_saved (mh_truncate r res2.2)))), ((b2 6), .inl (zI Z, 256, .inl (q7_closed (mh_truncate r res2.2)))), ((b2 7), .inl (zI Z, 256, .inl (q7_faces (mh_truncate r res2.2)))), ((b2 8), .inl (zI Z, 256, .inl (q7_rankOf (mh_truncate r res2.2)))), ((b2 9), .inl (zI Z, 256, .inl (q7_placeOf (mh_truncate r res2.2)))), ((b2 10), .inl (zI Z, 256, .inl (q7_counted (mh_truncate r res2.2)))), ((b2 11), .inl (zI Z, 10, .inl (q7_steps (mh_truncate r res2.2)))), ((b2 12), .inl (zI Z, 12, .inl (q7_onto (mh_truncate r res2.2)))), ((b2 13), .inl (zI Z, 8, .inl (q7_goes (mh_truncate r res2.2)))), ((b2 14), .inl (zI Z, 8, .inl (q7_firstImage (mh_truncate r res2.2))))])) rfl rfl (by decide) (by decide) (by decide) (WS Z a b2 q (mg_truncate o res.2) (mh_truncate r res2.2) (outI g res.1)) rfl (by decide) (Nat.le_of_ble_eq_true rfl) (Nat.le_of_ble_eq_true rfl) (Nat.le_of_ble_eq_true rfl) ⟨by omega, by omega⟩ rfl dL_law_382 ?_
  refine g_iload C dL_law_385 1 rfl ?_
  refine g_icmp_eq C 392 dL_law_387 (by decide) (fun _ => ?_) (fun z => absurd H3 z)
  refine g_iload C dL_law_392 1 rfl ?_
  refine g_if_ne C 409 dL_law_394 (by decide) (fun c2 => ?_) (fun c2 => ?_)
  · skip
    refine g_goto C 2645 dL_law_409 (by decide) ?_
    refine g_lv [2, 3, 4, 5, 6] [(0, .ref b), (1, .ref (a 0)), (2, .ref (b2 0)), (3, .ref q), (4, .int i)] rfl ?_
    exact g_widen (cells + 3) (slots + 18) (by omega) (by omega) K
  · obtain ⟨v, hv⟩ := hcd_zero [1] (by decide) c2
    refine g_aload_n C dL_law_397 rfl 5 rfl ?_
    refine g_iconst C 0 dL_law_398 (by decide) ?_
    refine g_lald C 45 rfl (by decide) dL_law_399 ?_
    refine g_iload C dL_law_400 0 rfl ?_
    refine g_i2l C dL_law_402 ?_
    refine g_lcmp C dL_law_403 ?_
    refine g_if_eq C 409 dL_law_404 (by decide) (fun _ => ?_) (fun z => absurd (by rw [hv, H4 v hv, outI_at]; exact lcmp_self _) z)
    refine g_goto C 2645 dL_law_409 (by decide) ?_
    refine g_lv [2, 3, 4, 5, 6] [(0, .ref b), (1, .ref (a 0)), (2, .ref (b2 0)), (3, .ref q), (4, .int i)] rfl ?_
    exact g_widen (cells + 3) (slots + 18) (by omega) (by omega) K
set_option maxRecDepth 100000 in
set_option maxHeartbeats 4000000 in
theorem lc_2 {p : Program} {l : Launch} {e : Env} {s : State} {m : MethodId} {below : List Frame} {meth : Method} {c : Code} {Z : GZ} {Y : YZ} {A : Nat → Prop} {Q : State → Prop} {cells slots b L q : Nat} {xs : Nat → Int32} {i : Int32} {a b2 : Nat → Nat} {o : OX6} {r : OX7} {g : Nat → Int64} (C : Cx p s m #[.ref b] c code 7 RL Z A) (hX : XT Y A s s.heap) (hN : XNo s) (hst : l.stackTraces = false) (hSc : va_X b L xs s s.heap) (hbl : b < s.heap.size) (hbA : ¬ A b) (hR1 : cells + 3 ≤ room_1.cells) (hR2 : slots + 18 ≤ room_1.slots) {res : Int32 × OX6} {res2 : Int32 × OX7} (H1 : fX6_errorPosition o = some res) (H2 : fX7_errorPosition r = some res2) (H3 : res.1 = res2.1) (K : Gw p l e room_1 s m #[.ref b] below meth c 7 Z A Q (cells + 3) (slots + 18) (2645) [(0, .ref b), (1, .ref (a 0)), (2, .ref (b2 0)), (3, .ref q), (4, .int i)] [] (WS Z a b2 q (mg_errorPosition o res.2) (mh_errorPosition r res2.2) g)) : Gw p l e room_1 s m #[.ref b] below meth c 7 Z A Q (cells) (slots) (412) [(0, .ref b), (1, .ref (a 0)), (2, .ref (b2 0)), (3, .ref q), (4, .int i)] [] (WS Z a b2 q o r g) := by
  refine g_aload_n C dL_law_412 rfl 1 rfl ?_
  refine gx_callW C hX (kX6_errorPosition l hst Z Y (a 0) (a 1) (a 2) (a 3) (a 21) (a 28) (a 30) (a 39) (a 41) (a 43) (a 44) o res H1) (g_recv C 0 rfl (ci := 6) rfl rfl) myX6_errorPosition 146 mw_2_7 rfl [0, 1, 2, 43, 44] [3, 4, 5, 6, 7, 8, 9, 10, 11, 12, 13, 14, 15, 16, 17, 18, 19, 20, 21, 22, 23, 24, 25, 26, 27, 28, 29, 30, 31, 32, 33, 34, 35, 36, 37, 38, 39, 40, 41, 42, 45, 46, 47, 48, 49, 50, 51, 52, 53, 54, 55, 56, 57, 58, 59, 60] [56, 57, 58, 0, 1, 2, 3, 4, 5, 6, 7, 8, 9, 10, 11, 12, 13, 14, 15, 16, 17, 18, 19, 20, 21, 22, 23, 24, 25, 26, 27, 28, 29, 30, 31, 32, 33, 34, 35, 36, 37, 38, 39, 59, 60, 40, 41, 42, 43, 44, 45, 46, 47, 48, 49, 50, 51, 52, 53, 54, 55] (wr := ([((a 3), .inr (1, [.ref (a 4), .int (q1_oldest (q6_history o)), .int (q1_count (q6_history o))])), ((a 4), .inl (zQ Z, 8, .inr (.inr (.inr (.inr (rg8 (a 5) (a 7) (a 9) (a 11) (a 13) (a 15) (a 17) (a 19))))))), ((a 5), .inr (2, [.ref (a 6), .int (q2_points ((q1_ring (q6_history o)) 0)), .int (q2_facets ((q1_ring (q6_history o)) 0))])), ((a 6), .inl (zI Z, 10, .inl (q2_sets ((q1_ring (q6_history o)) 0)))), ((a 7), .inr (2, [.ref (a 8), .int (q2_points ((q1_ring (q6_history o)) 1)), .int (q2_facets ((q1_ring (q6_history o)) 1))])), ((a 8), .inl (zI Z, 10, .inl (q2_sets ((q1_ring (q6_history o)) 1)))), ((a 9), .inr (2, [.ref (a 10), .int (q2_points ((q1_ring (q6_history o)) 2)), .int (q2_facets ((q1_ring (q6_history o)) 2))])), ((a 10), .inl (zI Z, 10, .inl (q2_sets ((q1_ring (q6_history o)) 2)))), ((a 11), .inr (2, [.ref (a 12), .int (q2_points ((q1_ring (q6_history o)) 3)), .int (q2_facets ((q1_ring (q6_history o)) 3))])), ((a 12), .inl (zI Z, 10, .inl (q2_sets ((q1_ring (q6_history o)) 3)))), ((a 13), .inr (2, [.ref (a 14), .int (q2_points ((q1_ring (q6_history o)) 4)), .int (q2_facets ((q1_ring (q6_history o)) 4))])), ((a 14), .inl (zI Z, 10, .inl (q2_sets ((q1_ring (q6_history o)) 4)))), ((a 15), .inr (2, [.ref (a 16), .int (q2_points ((q1_ring (q6_history o)) 5)), .int (q2_facets ((q1_ring (q6_history o)) 5))])), ((a 16), .inl (zI Z, 10, .inl (q2_sets ((q1_ring (q6_history o)) 5)))), ((a 17), .inr (2, [.ref (a 18), .int (q2_points ((q1_ring (q6_history o)) 6)), .int (q2_facets ((q1_ring (q6_history o)) 6))])), ((a 18), .inl (zI Z, 10, .inl (q2_sets ((q1_ring (q6_history o)) 6)))), ((a 19), .inr (2, [.ref (a 20), .int (q2_points ((q1_ring (q6_history o)) 7)), .int (q2_facets ((q1_ring (q6_history o)) 7))])), ((a 20), .inl (zI Z, 10, .inl (q2_sets ((q1_ring (q6_history o)) 7)))), ((a 21), .inr (3, [.ref (a 22), .ref (a 23), .ref (a 24), .ref (a 25), .ref (a 26), .int (q3_size (q6_lattice o)), .ref (a 27), .int (q3_points (q6_lattice o)), .int (q3_all (q6_lattice o))])), ((a 22), .inl (zI Z, 256, .inl (q3_closed (q6_lattice o)))), ((a 23), .inl (zI Z, 256, .inl (q3_ranks (q6_lattice o)))), ((a 24), .inl (zI Z, 256, .inl (q3_numbers (q6_lattice o)))), ((a 25), .inl (zI Z, 256, .inl (q3_sets (q6_lattice o)))), ((a 26), .inl (zI Z, 9, .inl (q3_rankSizes (q6_lattice o)))), ((a 27), .inl (zI Z, 256, .inl (q3_tally (q6_lattice o)))), ((a 28), .inr (0, [.ref (a 29), .int (q0_size (q6_graph o))])), ((a 29), .inl (zI Z, 10, .inl (q0_nextTo (q6_graph o)))), ((a 30), .inr (4, [.ref (a 31), .ref (a 32), .ref (a 33), .ref (a 34), .ref (a 35), .ref (a 36), .ref (a 37), .ref (a 38)])), ((a 31), .inl (zI Z, 8, .inl (q4_image (q6_matching o)))), ((a 32), .inl (zI Z, 8, .inl (q4_order (q6_matching o)))), ((a 33), .inl (zI Z, 8, .inl (q4_allowed (q6_matching o)))), ((a 34), .inl (zJ Z, 8, .inr (.inl (q4_signatures (q6_matching o))))), ((a 35), .inl (zJ Z, 8, .inr (.inl (q4_targetSignatures (q6_matching o))))), ((a 36), .inl (zI Z, 10, .inl (q4_traces (q6_matching o)))), ((a 37), .inl (zI Z, 10, .inl (q4_targetTraces (q6_matching o)))), ((a 38), .inl (zI Z, 256, .inl (q4_tally (q6_matching o)))), ((a 39), .inr (2, [.ref (a 40), .int (q2_points (q6_now o)), .int (q2_facets (q6_now o))])), ((a 40), .inl (zI Z, 10, .inl (q2_sets (q6_now o)))), ((a 41), .inr (2, [.ref (a 42), .int (q2_points (q6_saved o)), .int (q2_facets (q6_saved o))])), ((a 42), .inl (zI Z, 10, .inl (q2_sets (q6_saved o))))] ++ ([(q, .inl (zJ Z, 1, .inr (.inl g)))] ++ wX7 Z b2 r))) rfl rfl (by decide) (by decide) (by decide) (WS Z a b2 q (mg_errorPosition o res.2) r g) rfl (by decide) (Nat.le_of_ble_eq_true rfl) (Nat.le_of_ble_eq_true rfl) (Nat.le_of_ble_eq_true rfl) ⟨by omega, by omega⟩ rfl dL_law_413 ?_
  refine g_aload_n C dL_law_416 rfl 2 rfl ?_
  refine gx_callW C hX (kX7_errorPosition l hst Z Y (b2 0) (b2 1) (b2 2) (b2 3) (b2 4) (b2 5) (b2 6) (b2 7) (b2 8) (b2 9) (b2 10) (b2 11) (b2 12) (b2 13) (b2 14) r res2 H2) (g_recv C 46 rfl (ci := 7) rfl rfl) myX7_errorPosition 149 mw_5_192 rfl [46, 47, 49] [0, 1, 2, 3, 4, 5, 6, 7, 8, 9, 10, 11, 12, 13, 14, 15, 16, 17, 18, 19, 20, 21, 22, 23, 24, 25, 26, 27, 28, 29, 30, 31, 32, 33, 34, 35, 36, 37, 38, 39, 40, 41, 42, 43, 44, 45, 48, 50, 51, 52, 53, 54, 55, 56, 57, 58, 59, 60] [0, 1, 2, 3, 4, 5, 6, 7, 8, 9, 10, 11, 12, 13, 14, 15, 16, 17, 18, 19, 20, 21, 22, 23, 24, 25, 26, 27, 28, 29, 30, 31, 32, 33, 34, 35, 36, 37, 38, 39, 40, 41, 42, 43, 44, 45, 58, 59, 46, 60, 47, 48, 49, 50, 51, 52, 53, 54, 55, 56, 57] (wr := ((wX6 Z a (mg_errorPosition o res.2) ++ [(q, .inl (zJ Z, 1, .inr (.inl g)))]) ++ [((b2 2), .inl (zI Z, 12, .inl (q7_now r))), ((b2 4), .inl (zI Z, 96, .inl (q7_history r))), ((b2 5), .inl (zI Z, 12, .inl (q7_saved r))), ((b2 6), .inl (zI Z, 256, .inl (q7_closed r))), ((b2 7), .inl (zI Z, 256, .inl (q7_faces r))), ((b2 8), .inl (zI Z, 256, .inl (q7_rankOf r))), ((b2 9), .inl (zI Z, 256, .inl (q7_placeOf r))), ((b2 10), .inl (zI Z, 256, .inl (q7_counted r))), ((b2 11), .inl (zI Z, 10, .inl (q7_steps r))), ((b2 12), .inl (zI Z, 12, .inl (q7_onto r))), ((b2 13), .inl (zI Z, 8, .inl (q7_goes r))), ((b2 14), .inl (zI Z, 8, .inl (q7_firstImage r)))])) rfl rfl (by decide) (by decide) (by decide) (WS Z a b2 q (mg_errorPosition o res.2) (mh_errorPosition r res2.2) g) rfl (by decide) (Nat.le_of_ble_eq_true rfl) (Nat.le_of_ble_eq_true rfl) (Nat.le_of_ble_eq_true rfl) ⟨by omega, by omega⟩ rfl dL_law_417 ?_
  refine g_icmp_eq C 2645 dL_law_420 (by decide) (fun _ => ?_) (fun z => absurd H3 z)
  refine g_lv [0, 1, 2, 3, 4] [(0, .ref b), (1, .ref (a 0)), (2, .ref (b2 0)), (3, .ref q), (4, .int i)] rfl ?_
  exact g_widen (cells + 3) (slots + 18) (by omega) (by omega) K
set_option maxRecDepth 100000 in
set_option maxHeartbeats 4000000 in
theorem lc_3 {p : Program} {l : Launch} {e : Env} {s : State} {m : MethodId} {below : List Frame} {meth : Method} {c : Code} {Z : GZ} {Y : YZ} {A : Nat → Prop} {Q : State → Prop} {cells slots b L q : Nat} {xs : Nat → Int32} {i : Int32} {a b2 : Nat → Nat} {o : OX6} {r : OX7} {g : Nat → Int64} (C : Cx p s m #[.ref b] c code 7 RL Z A) (hX : XT Y A s s.heap) (hN : XNo s) (hst : l.stackTraces = false) (hSc : va_X b L xs s s.heap) (hbl : b < s.heap.size) (hbA : ¬ A b) (hR1 : cells + 3 ≤ room_1.cells) (hR2 : slots + 18 ≤ room_1.slots) {res : (Nat ⊕ Int32) × OX6} {res2 : Int32 × OX7} (H1 : fX6_load o = some res) (H2 : fX7_load r = some res2) (Hk : ∀ k, res.1 = .inl k → k = 1) (H3 : q7_thrown (mh_load r res2.2) = hcd [1] res.1) (H4 : ∀ v, res.1 = .inr v → res2.1 = v) (K : Gw p l e room_1 s m #[.ref b] below meth c 7 Z A Q (cells + 3) (slots + 18) (2645) [(0, .ref b), (1, .ref (a 0)), (2, .ref (b2 0)), (3, .ref q), (4, .int i)] [] (WS Z a b2 q (mg_load o res.2) (mh_load r res2.2) (outI g res.1))) : Gw p l e room_1 s m #[.ref b] below meth c 7 Z A Q (cells) (slots) (425) [(0, .ref b), (1, .ref (a 0)), (2, .ref (b2 0)), (3, .ref q), (4, .int i)] [] (WS Z a b2 q o r g) := by
  refine g_aload_n C dL_law_425 rfl 1 rfl ?_
  refine g_aload_n C dL_law_426 rfl 3 rfl ?_
  refine gx_callL C hX hN (kL_load l hst Z Y a q o g res H1 Hk) mw_3_171 mw_1_0 mw_3_170 ⟨by decide +kernel, by decide +kernel⟩ (n := 2) (by decide +kernel) 150 mw_3_169 rfl [0, 1, 2, 3, 4, 5, 6, 7, 8, 9, 10, 11, 12, 13, 14, 15, 16, 17, 18, 19, 20, 21, 22, 23, 24, 25, 26, 27, 28, 29, 30, 31, 32, 33, 34, 35, 36, 37, 38, 39, 40, 41, 42, 43, 44, 45] [46, 47, 48, 49, 50, 51, 52, 53, 54, 55, 56, 57, 58, 59, 60] [15, 16, 17, 18, 19, 20, 21, 22, 23, 24, 25, 26, 27, 28, 29, 30, 31, 32, 33, 34, 35, 36, 37, 38, 39, 40, 41, 42, 43, 44, 45, 46, 47, 48, 49, 50, 51, 52, 53, 54, 55, 56, 57, 58, 59, 60, 0, 1, 2, 3, 4, 5, 6, 7, 8, 9, 10, 11, 12, 13, 14] (wr := wX7 Z b2 r) rfl rfl (by decide) (by decide) (by decide) (WS Z a b2 q (mg_load o res.2) r (outI g res.1)) rfl (by decide) (Nat.le_of_ble_eq_true rfl) (Nat.le_of_ble_eq_true rfl) (Nat.le_of_ble_eq_true rfl) ⟨by omega, by omega⟩ rfl dL_law_427 ?_
  refine g_istore C dL_law_430 (by decide) [(5, .int (hcd [1] res.1)), (0, .ref b), (1, .ref (a 0)), (2, .ref (b2 0)), (3, .ref q), (4, .int i)] rfl ?_
  refine g_aload_n C dL_law_432 rfl 3 rfl ?_
  refine gx_callW C hX (kX7_load l hst Z Y (b2 0) (b2 1) (b2 2) (b2 3) (b2 4) (b2 5) (b2 6) (b2 7) (b2 8) (b2 9) (b2 10) (b2 11) (b2 12) (b2 13) (b2 14) r res2 H2) (g_recv C 46 rfl (ci := 7) rfl rfl) myX7_load 153 mw_6_48 rfl [46, 47, 48, 49] [0, 1, 2, 3, 4, 5, 6, 7, 8, 9, 10, 11, 12, 13, 14, 15, 16, 17, 18, 19, 20, 21, 22, 23, 24, 25, 26, 27, 28, 29, 30, 31, 32, 33, 34, 35, 36, 37, 38, 39, 40, 41, 42, 43, 44, 45, 50, 51, 52, 53, 54, 55, 56, 57, 58, 59, 60] [0, 1, 2, 3, 4, 5, 6, 7, 8, 9, 10, 11, 12, 13, 14, 15, 16, 17, 18, 19, 20, 21, 22, 23, 24, 25, 26, 27, 28, 29, 30, 31, 32, 33, 34, 35, 36, 37, 38, 39, 40, 41, 42, 43, 44, 45, 57, 58, 59, 60, 46, 47, 48, 49, 50, 51, 52, 53, 54, 55, 56] (wr := ((wX6 Z a (mg_load o res.2) ++ [(q, .inl (zJ Z, 1, .inr (.inl (outI g res.1))))]) ++ [((b2 4), .inl (zI Z, 96, .inl (q7_history r))), ((b2 5), .inl (zI Z, 12, .inl (q7_saved r))), ((b2 6), .inl (zI Z, 256, .inl (q7_closed r))), ((b2 7), .inl (zI Z, 256, .inl (q7_faces r))), ((b2 8), .inl (zI Z, 256, .inl (q7_rankOf r))), ((b2 9), .inl (zI Z, 256, .inl (q7_placeOf r))), ((b2 10), .inl (zI Z, 256, .inl (q7_counted r))), ((b2 11), .inl (zI Z, 10, .inl (q7_steps r))), ((b2 12), .inl (zI Z, 12, .inl (q7_onto r))), ((b2 13), .inl (zI Z, 8, .inl (q7_goes r))), ((b2 14), .inl (zI Z, 8, .inl (q7_firstImage r)))])) rfl rfl (by decide) (by decide) (by decide) (WS Z a b2 q (mg_load o res.2) (mh_load r res2.2) (outI g res.1)) rfl (by decide) (Nat.le_of_ble_eq_true rfl) (Nat.le_of_ble_eq_true rfl) (Nat.le_of_ble_eq_true rfl) ⟨by omega, by omega⟩ rfl dL_law_433 ?_
  refine g_istore C dL_law_436 (by decide) [(6, .int res2.1), (5, .int (hcd [1] res.1)), (0, .ref b), (1, .ref (a 0)), (2, .ref (b2 0)), (3, .ref q), (4, .int i)] rfl ?_
  refine g_aload_n C dL_law_438 rfl 4 rfl ?_
  refine g_callVi C (kX7_thrown l Z (b2 0) (b2 1) (b2 2) (b2 3) (b2 4) (b2 5) (b2 6) (b2 7) (b2 8) (b2 9) (b2 10) (b2 11) (b2 12) (b2 13) (b2 14) (mh_load r res2.2) (q7_thrown (mh_load r res2.2)) rfl) 0 rfl (ci := 7) rfl rfl myX7_thrown 139 mw_5_170 rfl [46] [0, 1, 2, 3, 4, 5, 6, 7, 8, 9, 10, 11, 12, 13, 14, 15, 16, 17, 18, 19, 20, 21, 22, 23, 24, 25, 26, 27, 28, 29, 30, 31, 32, 33, 34, 35, 36, 37, 38, 39, 40, 41, 42, 43, 44, 45, 47, 48, 49, 50, 51, 52, 53, 54, 55, 56, 57, 58, 59, 60] [0, 1, 2, 3, 4, 5, 6, 7, 8, 9, 10, 11, 12, 13, 14, 15, 16, 17, 18, 19, 20, 21, 22, 23, 24, 25, 26, 27, 28, 29, 30, 31, 32, 33, 34, 35, 36, 37, 38, 39, 40, 41, 42, 43, 44, 45, 60, 46, 47, 48, 49, 50, 51, 52, 53, 54, 55, 56, 57, 58, 59] (wr := ((wX6 Z a (mg_load o res.2) ++ [(q, .inl (zJ Z, 1, .inr (.inl (outI g res.1))))]) ++ [((b2 1), .inl (zI Z, 300, .inl (q7_buffer (mh_load r res2.2)))), ((b2 2), .inl (zI Z, 12, .inl (q7_now (mh_load r res2.2)))), ((b2 3), .inl (zI Z, 12, .inl (q7_made (mh_load r res2.2)))), ((b2 4), .inl (zI Z, 96, .inl (q7_history (mh_load r res2.2)))), ((b2 5), .inl (zI Z, 12, .inl (q7_saved (mh_load r res2.2)))), ((b2 6), .inl (zI Z, 256, .inl (q7_closed (mh_load r res2.2)))), ((b2 7), .inl (zI Z, 256, .inl (q7_faces (mh_load r res2.2)))), ((b2 8), .inl (zI Z, 256, .inl (q7_rankOf (mh_load r res2.2)))), ((b2 9), .inl (zI Z, 256, .inl (q7_placeOf (mh_load r res2.2)))), ((b2 10), .inl (zI Z, 256, .inl (q7_counted (mh_load r res2.2)))), ((b2 11), .inl (zI Z, 10, .inl (q7_steps (mh_load r res2.2)))), ((b2 12), .inl (zI Z, 12, .inl (q7_onto (mh_load r res2.2)))), ((b2 13), .inl (zI Z, 8, .inl (q7_goes (mh_load r res2.2)))), ((b2 14), .inl (zI Z, 8, .inl (q7_firstImage (mh_load r res2.2))))])) rfl rfl (by decide) (by decide) (by decide) (WS Z a b2 q (mg_load o res.2) (mh_load r res2.2) (outI g res.1)) rfl (by decide) (Nat.le_of_ble_eq_true rfl) (Nat.le_of_ble_eq_true rfl) (Nat.le_of_ble_eq_true rfl) ⟨by omega, by omega⟩ rfl dL_law_439 ?_
  refine g_iload C dL_law_442 1 rfl ?_
  refine g_icmp_eq C 449 dL_law_444 (by decide) (fun _ => ?_) (fun z => absurd H3 z)
  refine g_iload C dL_law_449 1 rfl ?_
  refine g_if_ne C 466 dL_law_451 (by decide) (fun c2 => ?_) (fun c2 => ?_)
  · skip
    refine g_goto C 2645 dL_law_466 (by decide) ?_
    refine g_lv [2, 3, 4, 5, 6] [(0, .ref b), (1, .ref (a 0)), (2, .ref (b2 0)), (3, .ref q), (4, .int i)] rfl ?_
    exact g_widen (cells + 3) (slots + 18) (by omega) (by omega) K
  · obtain ⟨v, hv⟩ := hcd_zero [1] (by decide) c2
    refine g_aload_n C dL_law_454 rfl 5 rfl ?_
    refine g_iconst C 0 dL_law_455 (by decide) ?_
    refine g_lald C 45 rfl (by decide) dL_law_456 ?_
    refine g_iload C dL_law_457 0 rfl ?_
    refine g_i2l C dL_law_459 ?_
    refine g_lcmp C dL_law_460 ?_
    refine g_if_eq C 466 dL_law_461 (by decide) (fun _ => ?_) (fun z => absurd (by rw [hv, H4 v hv, outI_at]; exact lcmp_self _) z)
    refine g_goto C 2645 dL_law_466 (by decide) ?_
    refine g_lv [2, 3, 4, 5, 6] [(0, .ref b), (1, .ref (a 0)), (2, .ref (b2 0)), (3, .ref q), (4, .int i)] rfl ?_
    exact g_widen (cells + 3) (slots + 18) (by omega) (by omega) K
set_option maxRecDepth 100000 in
set_option maxHeartbeats 4000000 in
theorem lc_4 {p : Program} {l : Launch} {e : Env} {s : State} {m : MethodId} {below : List Frame} {meth : Method} {c : Code} {Z : GZ} {Y : YZ} {A : Nat → Prop} {Q : State → Prop} {cells slots b L q : Nat} {xs : Nat → Int32} {i : Int32} {a b2 : Nat → Nat} {o : OX6} {r : OX7} {g : Nat → Int64} (C : Cx p s m #[.ref b] c code 7 RL Z A) (hX : XT Y A s s.heap) (hN : XNo s) (hst : l.stackTraces = false) (hSc : va_X b L xs s s.heap) (hbl : b < s.heap.size) (hbA : ¬ A b) (hR1 : cells + 3 ≤ room_1.cells) (hR2 : slots + 18 ≤ room_1.slots) (h1 : vp_in (i + 1) L) (h2 : vp_in (i + 2) L) (h3 : vp_in (i + 3) L) {res : (Nat ⊕ Int32) × OX6} {res2 : Int32 × OX7} (H1 : fX6_setIncident o (xs (ix (i + 1))) (xs (ix (i + 2))) (bz (xs (ix (i + 3)))) = some res) (H2 : fX7_setIncident r (xs (ix (i + 1))) (xs (ix (i + 2))) (bz (xs (ix (i + 3)))) = some res2) (Hk : ∀ k, res.1 = .inl k → k = 2) (H3 : q7_thrown (mh_setIncident r res2.2) = hcd [2] res.1) (H4 : ∀ v, res.1 = .inr v → res2.1 = v) (K : Gw p l e room_1 s m #[.ref b] below meth c 7 Z A Q (cells + 3) (slots + 18) (2645) [(0, .ref b), (1, .ref (a 0)), (2, .ref (b2 0)), (3, .ref q), (4, .int i)] [] (WS Z a b2 q (mg_setIncident o res.2) (mh_setIncident r res2.2) (outB g res.1))) : Gw p l e room_1 s m #[.ref b] below meth c 7 Z A Q (cells) (slots) (469) [(0, .ref b), (1, .ref (a 0)), (2, .ref (b2 0)), (3, .ref q), (4, .int i)] [] (WS Z a b2 q o r g) := by
  refine g_aload_n C dL_law_469 rfl 1 rfl ?_
  refine g_aload_n C dL_law_470 rfl 0 rfl ?_
  refine g_iload C dL_law_471 4 rfl ?_
  refine g_iconst C 1 dL_law_473 (by decide) ?_
  refine g_iadd C dL_law_474 ?_
  refine g_sld C hSc hbl hbA h1 dL_law_475 ?_
  refine g_aload_n C dL_law_476 rfl 0 rfl ?_
  refine g_iload C dL_law_477 4 rfl ?_
  refine g_iconst C 2 dL_law_479 (by decide) ?_
  refine g_iadd C dL_law_480 ?_
  refine g_sld C hSc hbl hbA h2 dL_law_481 ?_
  refine g_aload_n C dL_law_482 rfl 0 rfl ?_
  refine g_iload C dL_law_483 4 rfl ?_
  refine g_iconst C 3 dL_law_485 (by decide) ?_
  refine g_iadd C dL_law_486 ?_
  refine g_sld C hSc hbl hbA h3 dL_law_487 ?_
  refine g_if_eq C 495 dL_law_488 (by decide) (fun cb => ?_) (fun cb => ?_)
  · have e99 : bz (xs (ix (i + 3))) = 0 := if_pos cb
    rw [e99] at H1 H2
    refine g_iconst C 0 dL_law_495 (by decide) ?_
    refine g_aload_n C dL_law_496 rfl 3 rfl ?_
    refine gx_callL C hX hN (kL_setIncident l hst Z Y a q o g (xs (ix (i + 1))) (xs (ix (i + 2))) 0 res H1 Hk) mw_3_182 mw_1_0 mw_3_181 ⟨by decide +kernel, by decide +kernel⟩ (n := 5) (by decide +kernel) 154 mw_3_180 rfl [0, 1, 2, 3, 4, 5, 6, 7, 8, 9, 10, 11, 12, 13, 14, 15, 16, 17, 18, 19, 20, 21, 22, 23, 24, 25, 26, 27, 28, 29, 30, 31, 32, 33, 34, 35, 36, 37, 38, 39, 40, 41, 42, 43, 44, 45] [46, 47, 48, 49, 50, 51, 52, 53, 54, 55, 56, 57, 58, 59, 60] [15, 16, 17, 18, 19, 20, 21, 22, 23, 24, 25, 26, 27, 28, 29, 30, 31, 32, 33, 34, 35, 36, 37, 38, 39, 40, 41, 42, 43, 44, 45, 46, 47, 48, 49, 50, 51, 52, 53, 54, 55, 56, 57, 58, 59, 60, 0, 1, 2, 3, 4, 5, 6, 7, 8, 9, 10, 11, 12, 13, 14] (wr := wX7 Z b2 r) rfl rfl (by decide) (by decide) (by decide) (WS Z a b2 q (mg_setIncident o res.2) r (outB g res.1)) rfl (by decide) (Nat.le_of_ble_eq_true rfl) (Nat.le_of_ble_eq_true rfl) (Nat.le_of_ble_eq_true rfl) ⟨by omega, by omega⟩ rfl dL_law_497 ?_
    refine g_istore C dL_law_500 (by decide) [(5, .int (hcd [2] res.1)), (0, .ref b), (1, .ref (a 0)), (2, .ref (b2 0)), (3, .ref q), (4, .int i)] rfl ?_
    refine g_aload_n C dL_law_502 rfl 3 rfl ?_
    refine g_aload_n C dL_law_503 rfl 1 rfl ?_
    refine g_iload C dL_law_504 5 rfl ?_
    refine g_iconst C 1 dL_law_506 (by decide) ?_
    refine g_iadd C dL_law_507 ?_
    refine g_sld C hSc hbl hbA h1 dL_law_508 ?_
    refine g_aload_n C dL_law_509 rfl 1 rfl ?_
    refine g_iload C dL_law_510 5 rfl ?_
    refine g_iconst C 2 dL_law_512 (by decide) ?_
    refine g_iadd C dL_law_513 ?_
    refine g_sld C hSc hbl hbA h2 dL_law_514 ?_
    refine g_aload_n C dL_law_515 rfl 1 rfl ?_
    refine g_iload C dL_law_516 5 rfl ?_
    refine g_iconst C 3 dL_law_518 (by decide) ?_
    refine g_iadd C dL_law_519 ?_
    refine g_sld C hSc hbl hbA h3 dL_law_520 ?_
    refine g_if_eq C 528 dL_law_521 (by decide) (fun _ => ?_) (fun z => absurd cb z)
    refine g_iconst C 0 dL_law_528 (by decide) ?_
    refine g_callVi C (kX7_setIncident l Z (b2 0) (b2 1) (b2 2) (b2 3) (b2 4) (b2 5) (b2 6) (b2 7) (b2 8) (b2 9) (b2 10) (b2 11) (b2 12) (b2 13) (b2 14) r (xs (ix (i + 1))) (xs (ix (i + 2))) 0 res2 H2) 0 rfl (ci := 7) rfl rfl myX7_setIncident 157 mw_6_72 rfl [46, 48, 50] [0, 1, 2, 3, 4, 5, 6, 7, 8, 9, 10, 11, 12, 13, 14, 15, 16, 17, 18, 19, 20, 21, 22, 23, 24, 25, 26, 27, 28, 29, 30, 31, 32, 33, 34, 35, 36, 37, 38, 39, 40, 41, 42, 43, 44, 45, 47, 49, 51, 52, 53, 54, 55, 56, 57, 58, 59, 60] [0, 1, 2, 3, 4, 5, 6, 7, 8, 9, 10, 11, 12, 13, 14, 15, 16, 17, 18, 19, 20, 21, 22, 23, 24, 25, 26, 27, 28, 29, 30, 31, 32, 33, 34, 35, 36, 37, 38, 39, 40, 41, 42, 43, 44, 45, 58, 46, 59, 47, 60, 48, 49, 50, 51, 52, 53, 54, 55, 56, 57] (wr := ((wX6 Z a (mg_setIncident o res.2) ++ [(q, .inl (zJ Z, 1, .inr (.inl (outB g res.1))))]) ++ [((b2 1), .inl (zI Z, 300, .inl (q7_buffer r))), ((b2 3), .inl (zI Z, 12, .inl (q7_made r))), ((b2 5), .inl (zI Z, 12, .inl (q7_saved r))), ((b2 6), .inl (zI Z, 256, .inl (q7_closed r))), ((b2 7), .inl (zI Z, 256, .inl (q7_faces r))), ((b2 8), .inl (zI Z, 256, .inl (q7_rankOf r))), ((b2 9), .inl (zI Z, 256, .inl (q7_placeOf r))), ((b2 10), .inl (zI Z, 256, .inl (q7_counted r))), ((b2 11), .inl (zI Z, 10, .inl (q7_steps r))), ((b2 12), .inl (zI Z, 12, .inl (q7_onto r))), ((b2 13), .inl (zI Z, 8, .inl (q7_goes r))), ((b2 14), .inl (zI Z, 8, .inl (q7_firstImage r)))])) rfl rfl (by decide) (by decide) (by decide) (WS Z a b2 q (mg_setIncident o res.2) (mh_setIncident r res2.2) (outB g res.1)) rfl (by decide) (Nat.le_of_ble_eq_true rfl) (Nat.le_of_ble_eq_true rfl) (Nat.le_of_ble_eq_true rfl) ⟨by omega, by omega⟩ rfl dL_law_529 ?_
    refine g_istore C dL_law_532 (by decide) [(6, .int res2.1), (5, .int (hcd [2] res.1)), (0, .ref b), (1, .ref (a 0)), (2, .ref (b2 0)), (3, .ref q), (4, .int i)] rfl ?_
    refine g_aload_n C dL_law_534 rfl 4 rfl ?_
    refine g_callVi C (kX7_thrown l Z (b2 0) (b2 1) (b2 2) (b2 3) (b2 4) (b2 5) (b2 6) (b2 7) (b2 8) (b2 9) (b2 10) (b2 11) (b2 12) (b2 13) (b2 14) (mh_setIncident r res2.2) (q7_thrown (mh_setIncident r res2.2)) rfl) 0 rfl (ci := 7) rfl rfl myX7_thrown 139 mw_5_170 rfl [46] [0, 1, 2, 3, 4, 5, 6, 7, 8, 9, 10, 11, 12, 13, 14, 15, 16, 17, 18, 19, 20, 21, 22, 23, 24, 25, 26, 27, 28, 29, 30, 31, 32, 33, 34, 35, 36, 37, 38, 39, 40, 41, 42, 43, 44, 45, 47, 48, 49, 50, 51, 52, 53, 54, 55, 56, 57, 58, 59, 60] [0, 1, 2, 3, 4, 5, 6, 7, 8, 9, 10, 11, 12, 13, 14, 15, 16, 17, 18, 19, 20, 21, 22, 23, 24, 25, 26, 27, 28, 29, 30, 31, 32, 33, 34, 35, 36, 37, 38, 39, 40, 41, 42, 43, 44, 45, 60, 46, 47, 48, 49, 50, 51, 52, 53, 54, 55, 56, 57, 58, 59] (wr := ((wX6 Z a (mg_setIncident o res.2) ++ [(q, .inl (zJ Z, 1, .inr (.inl (outB g res.1))))]) ++ [((b2 1), .inl (zI Z, 300, .inl (q7_buffer (mh_setIncident r res2.2)))), ((b2 2), .inl (zI Z, 12, .inl (q7_now (mh_setIncident r res2.2)))), ((b2 3), .inl (zI Z, 12, .inl (q7_made (mh_setIncident r res2.2)))), ((b2 4), .inl (zI Z, 96, .inl (q7_history (mh_setIncident r res2.2)))), ((b2 5), .inl (zI Z, 12, .inl (q7_saved (mh_setIncident r res2.2)))), ((b2 6), .inl (zI Z, 256, .inl (q7_closed (mh_setIncident r res2.2)))), ((b2 7), .inl (zI Z, 256, .inl (q7_faces (mh_setIncident r res2.2)))), ((b2 8), .inl (zI Z, 256, .inl (q7_rankOf (mh_setIncident r res2.2)))), ((b2 9), .inl (zI Z, 256, .inl (q7_placeOf (mh_setIncident r res2.2)))), ((b2 10), .inl (zI Z, 256, .inl (q7_counted (mh_setIncident r res2.2)))), ((b2 11), .inl (zI Z, 10, .inl (q7_steps (mh_setIncident r res2.2)))), ((b2 12), .inl (zI Z, 12, .inl (q7_onto (mh_setIncident r res2.2)))), ((b2 13), .inl (zI Z, 8, .inl (q7_goes (mh_setIncident r res2.2)))), ((b2 14), .inl (zI Z, 8, .inl (q7_firstImage (mh_setIncident r res2.2))))])) rfl rfl (by decide) (by decide) (by decide) (WS Z a b2 q (mg_setIncident o res.2) (mh_setIncident r res2.2) (outB g res.1)) rfl (by decide) (Nat.le_of_ble_eq_true rfl) (Nat.le_of_ble_eq_true rfl) (Nat.le_of_ble_eq_true rfl) ⟨by omega, by omega⟩ rfl dL_law_535 ?_
    refine g_iload C dL_law_538 1 rfl ?_
    refine g_icmp_eq C 545 dL_law_540 (by decide) (fun _ => ?_) (fun z => absurd H3 z)
    refine g_iload C dL_law_545 1 rfl ?_
    refine g_if_ne C 569 dL_law_547 (by decide) (fun c2 => ?_) (fun c2 => ?_)
    · skip
      refine g_goto C 2645 dL_law_569 (by decide) ?_
      refine g_lv [2, 3, 4, 5, 6] [(0, .ref b), (1, .ref (a 0)), (2, .ref (b2 0)), (3, .ref q), (4, .int i)] rfl ?_
      exact g_widen (cells + 3) (slots + 18) (by omega) (by omega) K
    · obtain ⟨v, hv⟩ := hcd_zero [2] (by decide) c2
      refine g_aload_n C dL_law_550 rfl 5 rfl ?_
      refine g_iconst C 0 dL_law_551 (by decide) ?_
      refine g_lald C 45 rfl (by decide) dL_law_552 ?_
      refine g_iload C dL_law_553 0 rfl ?_
      refine g_if_eq C 562 dL_law_555 (by decide) (fun c3 => ?_) (fun c3 => ?_)
      · have c4 : v = 0 := (H4 v hv) ▸ c3
        refine g_lconst C 0 dL_law_562 (by decide) ?_
        refine g_lcmp C dL_law_563 ?_
        refine g_if_eq C 569 dL_law_564 (by decide) (fun _ => ?_) (fun z => absurd (by rw [hv, outB_at, if_pos c4]; exact lcmp_self _) z)
        refine g_goto C 2645 dL_law_569 (by decide) ?_
        refine g_lv [2, 3, 4, 5, 6] [(0, .ref b), (1, .ref (a 0)), (2, .ref (b2 0)), (3, .ref q), (4, .int i)] rfl ?_
        exact g_widen (cells + 3) (slots + 18) (by omega) (by omega) K
      · have c4 : ¬ v = 0 := (H4 v hv) ▸ c3
        refine g_lconst C 1 dL_law_558 (by decide) ?_
        refine g_goto C 563 dL_law_559 (by decide) ?_
        refine g_lcmp C dL_law_563 ?_
        refine g_if_eq C 569 dL_law_564 (by decide) (fun _ => ?_) (fun z => absurd (by rw [hv, outB_at, if_neg c4]; exact lcmp_self _) z)
        refine g_goto C 2645 dL_law_569 (by decide) ?_
        refine g_lv [2, 3, 4, 5, 6] [(0, .ref b), (1, .ref (a 0)), (2, .ref (b2 0)), (3, .ref q), (4, .int i)] rfl ?_
        exact g_widen (cells + 3) (slots + 18) (by omega) (by omega) K
  · have e99 : bz (xs (ix (i + 3))) = 1 := if_neg cb
    rw [e99] at H1 H2
    refine g_iconst C 1 dL_law_491 (by decide) ?_
    refine g_goto C 496 dL_law_492 (by decide) ?_
    refine g_aload_n C dL_law_496 rfl 3 rfl ?_
    refine gx_callL C hX hN (kL_setIncident l hst Z Y a q o g (xs (ix (i + 1))) (xs (ix (i + 2))) 1 res H1 Hk) mw_3_182 mw_1_0 mw_3_181 ⟨by decide +kernel, by decide +kernel⟩ (n := 5) (by decide +kernel) 154 mw_3_180 rfl [0, 1, 2, 3, 4, 5, 6, 7, 8, 9, 10, 11, 12, 13, 14, 15, 16, 17, 18, 19, 20, 21, 22, 23, 24, 25, 26, 27, 28, 29, 30, 31, 32, 33, 34, 35, 36, 37, 38, 39, 40, 41, 42, 43, 44, 45] [46, 47, 48, 49, 50, 51, 52, 53, 54, 55, 56, 57, 58, 59, 60] [15, 16, 17, 18, 19, 20, 21, 22, 23, 24, 25, 26, 27, 28, 29, 30, 31, 32, 33, 34, 35, 36, 37, 38, 39, 40, 41, 42, 43, 44, 45, 46, 47, 48, 49, 50, 51, 52, 53, 54, 55, 56, 57, 58, 59, 60, 0, 1, 2, 3, 4, 5, 6, 7, 8, 9, 10, 11, 12, 13, 14] (wr := wX7 Z b2 r) rfl rfl (by decide) (by decide) (by decide) (WS Z a b2 q (mg_setIncident o res.2) r (outB g res.1)) rfl (by decide) (Nat.le_of_ble_eq_true rfl) (Nat.le_of_ble_eq_true rfl) (Nat.le_of_ble_eq_true rfl) ⟨by omega, by omega⟩ rfl dL_law_497 ?_
    refine g_istore C dL_law_500 (by decide) [(5, .int (hcd [2] res.1)), (0, .ref b), (1, .ref (a 0)), (2, .ref (b2 0)), (3, .ref q), (4, .int i)] rfl ?_
    refine g_aload_n C dL_law_502 rfl 3 rfl ?_
    refine g_aload_n C dL_law_503 rfl 1 rfl ?_
    refine g_iload C dL_law_504 5 rfl ?_
    refine g_iconst C 1 dL_law_506 (by decide) ?_
    refine g_iadd C dL_law_507 ?_
    refine g_sld C hSc hbl hbA h1 dL_law_508 ?_
    refine g_aload_n C dL_law_509 rfl 1 rfl ?_
    refine g_iload C dL_law_510 5 rfl ?_
    refine g_iconst C 2 dL_law_512 (by decide) ?_
    refine g_iadd C dL_law_513 ?_
    refine g_sld C hSc hbl hbA h2 dL_law_514 ?_
    refine g_aload_n C dL_law_515 rfl 1 rfl ?_
    refine g_iload C dL_law_516 5 rfl ?_
    refine g_iconst C 3 dL_law_518 (by decide) ?_
    refine g_iadd C dL_law_519 ?_
    refine g_sld C hSc hbl hbA h3 dL_law_520 ?_
    refine g_if_eq C 528 dL_law_521 (by decide) (fun z => absurd z cb) (fun _ => ?_)
    refine g_iconst C 1 dL_law_524 (by decide) ?_
    refine g_goto C 529 dL_law_525 (by decide) ?_
    refine g_callVi C (kX7_setIncident l Z (b2 0) (b2 1) (b2 2) (b2 3) (b2 4) (b2 5) (b2 6) (b2 7) (b2 8) (b2 9) (b2 10) (b2 11) (b2 12) (b2 13) (b2 14) r (xs (ix (i + 1))) (xs (ix (i + 2))) 1 res2 H2) 0 rfl (ci := 7) rfl rfl myX7_setIncident 157 mw_6_72 rfl [46, 48, 50] [0, 1, 2, 3, 4, 5, 6, 7, 8, 9, 10, 11, 12, 13, 14, 15, 16, 17, 18, 19, 20, 21, 22, 23, 24, 25, 26, 27, 28, 29, 30, 31, 32, 33, 34, 35, 36, 37, 38, 39, 40, 41, 42, 43, 44, 45, 47, 49, 51, 52, 53, 54, 55, 56, 57, 58, 59, 60] [0, 1, 2, 3, 4, 5, 6, 7, 8, 9, 10, 11, 12, 13, 14, 15, 16, 17, 18, 19, 20, 21, 22, 23, 24, 25, 26, 27, 28, 29, 30, 31, 32, 33, 34, 35, 36, 37, 38, 39, 40, 41, 42, 43, 44, 45, 58, 46, 59, 47, 60, 48, 49, 50, 51, 52, 53, 54, 55, 56, 57] (wr := ((wX6 Z a (mg_setIncident o res.2) ++ [(q, .inl (zJ Z, 1, .inr (.inl (outB g res.1))))]) ++ [((b2 1), .inl (zI Z, 300, .inl (q7_buffer r))), ((b2 3), .inl (zI Z, 12, .inl (q7_made r))), ((b2 5), .inl (zI Z, 12, .inl (q7_saved r))), ((b2 6), .inl (zI Z, 256, .inl (q7_closed r))), ((b2 7), .inl (zI Z, 256, .inl (q7_faces r))), ((b2 8), .inl (zI Z, 256, .inl (q7_rankOf r))), ((b2 9), .inl (zI Z, 256, .inl (q7_placeOf r))), ((b2 10), .inl (zI Z, 256, .inl (q7_counted r))), ((b2 11), .inl (zI Z, 10, .inl (q7_steps r))), ((b2 12), .inl (zI Z, 12, .inl (q7_onto r))), ((b2 13), .inl (zI Z, 8, .inl (q7_goes r))), ((b2 14), .inl (zI Z, 8, .inl (q7_firstImage r)))])) rfl rfl (by decide) (by decide) (by decide) (WS Z a b2 q (mg_setIncident o res.2) (mh_setIncident r res2.2) (outB g res.1)) rfl (by decide) (Nat.le_of_ble_eq_true rfl) (Nat.le_of_ble_eq_true rfl) (Nat.le_of_ble_eq_true rfl) ⟨by omega, by omega⟩ rfl dL_law_529 ?_
    refine g_istore C dL_law_532 (by decide) [(6, .int res2.1), (5, .int (hcd [2] res.1)), (0, .ref b), (1, .ref (a 0)), (2, .ref (b2 0)), (3, .ref q), (4, .int i)] rfl ?_
    refine g_aload_n C dL_law_534 rfl 4 rfl ?_
    refine g_callVi C (kX7_thrown l Z (b2 0) (b2 1) (b2 2) (b2 3) (b2 4) (b2 5) (b2 6) (b2 7) (b2 8) (b2 9) (b2 10) (b2 11) (b2 12) (b2 13) (b2 14) (mh_setIncident r res2.2) (q7_thrown (mh_setIncident r res2.2)) rfl) 0 rfl (ci := 7) rfl rfl myX7_thrown 139 mw_5_170 rfl [46] [0, 1, 2, 3, 4, 5, 6, 7, 8, 9, 10, 11, 12, 13, 14, 15, 16, 17, 18, 19, 20, 21, 22, 23, 24, 25, 26, 27, 28, 29, 30, 31, 32, 33, 34, 35, 36, 37, 38, 39, 40, 41, 42, 43, 44, 45, 47, 48, 49, 50, 51, 52, 53, 54, 55, 56, 57, 58, 59, 60] [0, 1, 2, 3, 4, 5, 6, 7, 8, 9, 10, 11, 12, 13, 14, 15, 16, 17, 18, 19, 20, 21, 22, 23, 24, 25, 26, 27, 28, 29, 30, 31, 32, 33, 34, 35, 36, 37, 38, 39, 40, 41, 42, 43, 44, 45, 60, 46, 47, 48, 49, 50, 51, 52, 53, 54, 55, 56, 57, 58, 59] (wr := ((wX6 Z a (mg_setIncident o res.2) ++ [(q, .inl (zJ Z, 1, .inr (.inl (outB g res.1))))]) ++ [((b2 1), .inl (zI Z, 300, .inl (q7_buffer (mh_setIncident r res2.2)))), ((b2 2), .inl (zI Z, 12, .inl (q7_now (mh_setIncident r res2.2)))), ((b2 3), .inl (zI Z, 12, .inl (q7_made (mh_setIncident r res2.2)))), ((b2 4), .inl (zI Z, 96, .inl (q7_history (mh_setIncident r res2.2)))), ((b2 5), .inl (zI Z, 12, .inl (q7_saved (mh_setIncident r res2.2)))), ((b2 6), .inl (zI Z, 256, .inl (q7_closed (mh_setIncident r res2.2)))), ((b2 7), .inl (zI Z, 256, .inl (q7_faces (mh_setIncident r res2.2)))), ((b2 8), .inl (zI Z, 256, .inl (q7_rankOf (mh_setIncident r res2.2)))), ((b2 9), .inl (zI Z, 256, .inl (q7_placeOf (mh_setIncident r res2.2)))), ((b2 10), .inl (zI Z, 256, .inl (q7_counted (mh_setIncident r res2.2)))), ((b2 11), .inl (zI Z, 10, .inl (q7_steps (mh_setIncident r res2.2)))), ((b2 12), .inl (zI Z, 12, .inl (q7_onto (mh_setIncident r res2.2)))), ((b2 13), .inl (zI Z, 8, .inl (q7_goes (mh_setIncident r res2.2)))), ((b2 14), .inl (zI Z, 8, .inl (q7_firstImage (mh_setIncident r res2.2))))])) rfl rfl (by decide) (by decide) (by decide) (WS Z a b2 q (mg_setIncident o res.2) (mh_setIncident r res2.2) (outB g res.1)) rfl (by decide) (Nat.le_of_ble_eq_true rfl) (Nat.le_of_ble_eq_true rfl) (Nat.le_of_ble_eq_true rfl) ⟨by omega, by omega⟩ rfl dL_law_535 ?_
    refine g_iload C dL_law_538 1 rfl ?_
    refine g_icmp_eq C 545 dL_law_540 (by decide) (fun _ => ?_) (fun z => absurd H3 z)
    refine g_iload C dL_law_545 1 rfl ?_
    refine g_if_ne C 569 dL_law_547 (by decide) (fun c2 => ?_) (fun c2 => ?_)
    · skip
      refine g_goto C 2645 dL_law_569 (by decide) ?_
      refine g_lv [2, 3, 4, 5, 6] [(0, .ref b), (1, .ref (a 0)), (2, .ref (b2 0)), (3, .ref q), (4, .int i)] rfl ?_
      exact g_widen (cells + 3) (slots + 18) (by omega) (by omega) K
    · obtain ⟨v, hv⟩ := hcd_zero [2] (by decide) c2
      refine g_aload_n C dL_law_550 rfl 5 rfl ?_
      refine g_iconst C 0 dL_law_551 (by decide) ?_
      refine g_lald C 45 rfl (by decide) dL_law_552 ?_
      refine g_iload C dL_law_553 0 rfl ?_
      refine g_if_eq C 562 dL_law_555 (by decide) (fun c3 => ?_) (fun c3 => ?_)
      · have c4 : v = 0 := (H4 v hv) ▸ c3
        refine g_lconst C 0 dL_law_562 (by decide) ?_
        refine g_lcmp C dL_law_563 ?_
        refine g_if_eq C 569 dL_law_564 (by decide) (fun _ => ?_) (fun z => absurd (by rw [hv, outB_at, if_pos c4]; exact lcmp_self _) z)
        refine g_goto C 2645 dL_law_569 (by decide) ?_
        refine g_lv [2, 3, 4, 5, 6] [(0, .ref b), (1, .ref (a 0)), (2, .ref (b2 0)), (3, .ref q), (4, .int i)] rfl ?_
        exact g_widen (cells + 3) (slots + 18) (by omega) (by omega) K
      · have c4 : ¬ v = 0 := (H4 v hv) ▸ c3
        refine g_lconst C 1 dL_law_558 (by decide) ?_
        refine g_goto C 563 dL_law_559 (by decide) ?_
        refine g_lcmp C dL_law_563 ?_
        refine g_if_eq C 569 dL_law_564 (by decide) (fun _ => ?_) (fun z => absurd (by rw [hv, outB_at, if_neg c4]; exact lcmp_self _) z)
        refine g_goto C 2645 dL_law_569 (by decide) ?_
        refine g_lv [2, 3, 4, 5, 6] [(0, .ref b), (1, .ref (a 0)), (2, .ref (b2 0)), (3, .ref q), (4, .int i)] rfl ?_
        exact g_widen (cells + 3) (slots + 18) (by omega) (by omega) K
set_option maxRecDepth 100000 in
set_option maxHeartbeats 4000000 in
theorem lc_5 {p : Program} {l : Launch} {e : Env} {s : State} {m : MethodId} {below : List Frame} {meth : Method} {c : Code} {Z : GZ} {Y : YZ} {A : Nat → Prop} {Q : State → Prop} {cells slots b L q : Nat} {xs : Nat → Int32} {i : Int32} {a b2 : Nat → Nat} {o : OX6} {r : OX7} {g : Nat → Int64} (C : Cx p s m #[.ref b] c code 7 RL Z A) (hX : XT Y A s s.heap) (hN : XNo s) (hst : l.stackTraces = false) (hSc : va_X b L xs s s.heap) (hbl : b < s.heap.size) (hbA : ¬ A b) (hR1 : cells + 3 ≤ room_1.cells) (hR2 : slots + 18 ≤ room_1.slots) (h1 : vp_in (i + 1) L) {res : (Nat ⊕ Int32) × OX6} {res2 : Int32 × OX7} (H1 : fX6_addFacet o (xs (ix (i + 1))) = some res) (H2 : fX7_addFacet r (xs (ix (i + 1))) = some res2) (Hk : ∀ k, res.1 = .inl k → k = 1 ∨ k = 0) (H3 : q7_thrown (mh_addFacet r res2.2) = hcd [1, 0] res.1) (H4 : ∀ v, res.1 = .inr v → res2.1 = v) (K : Gw p l e room_1 s m #[.ref b] below meth c 7 Z A Q (cells + 3) (slots + 18) (2645) [(0, .ref b), (1, .ref (a 0)), (2, .ref (b2 0)), (3, .ref q), (4, .int i)] [] (WS Z a b2 q (mg_addFacet o res.2) (mh_addFacet r res2.2) (outI g res.1))) : Gw p l e room_1 s m #[.ref b] below meth c 7 Z A Q (cells) (slots) (572) [(0, .ref b), (1, .ref (a 0)), (2, .ref (b2 0)), (3, .ref q), (4, .int i)] [] (WS Z a b2 q o r g) := by
  refine g_aload_n C dL_law_572 rfl 1 rfl ?_
  refine g_aload_n C dL_law_573 rfl 0 rfl ?_
  refine g_iload C dL_law_574 4 rfl ?_
  refine g_iconst C 1 dL_law_576 (by decide) ?_
  refine g_iadd C dL_law_577 ?_
  refine g_sld C hSc hbl hbA h1 dL_law_578 ?_
  refine g_aload_n C dL_law_579 rfl 3 rfl ?_
  refine gx_callL C hX hN (kL_addFacet l hst Z Y a q o g (xs (ix (i + 1))) res H1 Hk) mw_3_227 mw_1_0 mw_3_226 ⟨by decide +kernel, by decide +kernel⟩ (n := 3) (by decide +kernel) 158 mw_3_225 rfl [0, 1, 2, 3, 4, 5, 6, 7, 8, 9, 10, 11, 12, 13, 14, 15, 16, 17, 18, 19, 20, 21, 22, 23, 24, 25, 26, 27, 28, 29, 30, 31, 32, 33, 34, 35, 36, 37, 38, 39, 40, 41, 42, 43, 44, 45] [46, 47, 48, 49, 50, 51, 52, 53, 54, 55, 56, 57, 58, 59, 60] [15, 16, 17, 18, 19, 20, 21, 22, 23, 24, 25, 26, 27, 28, 29, 30, 31, 32, 33, 34, 35, 36, 37, 38, 39, 40, 41, 42, 43, 44, 45, 46, 47, 48, 49, 50, 51, 52, 53, 54, 55, 56, 57, 58, 59, 60, 0, 1, 2, 3, 4, 5, 6, 7, 8, 9, 10, 11, 12, 13, 14] (wr := wX7 Z b2 r) rfl rfl (by decide) (by decide) (by decide) (WS Z a b2 q (mg_addFacet o res.2) r (outI g res.1)) rfl (by decide) (Nat.le_of_ble_eq_true rfl) (Nat.le_of_ble_eq_true rfl) (Nat.le_of_ble_eq_true rfl) ⟨by omega, by omega⟩ rfl dL_law_580 ?_
  refine g_istore C dL_law_583 (by decide) [(5, .int (hcd [1, 0] res.1)), (0, .ref b), (1, .ref (a 0)), (2, .ref (b2 0)), (3, .ref q), (4, .int i)] rfl ?_
  refine g_aload_n C dL_law_585 rfl 3 rfl ?_
  refine g_aload_n C dL_law_586 rfl 1 rfl ?_
  refine g_iload C dL_law_587 5 rfl ?_
  refine g_iconst C 1 dL_law_589 (by decide) ?_
  refine g_iadd C dL_law_590 ?_
  refine g_sld C hSc hbl hbA h1 dL_law_591 ?_
  refine g_callVi C (kX7_addFacet l Z (b2 0) (b2 1) (b2 2) (b2 3) (b2 4) (b2 5) (b2 6) (b2 7) (b2 8) (b2 9) (b2 10) (b2 11) (b2 12) (b2 13) (b2 14) r (xs (ix (i + 1))) res2 H2) 0 rfl (ci := 7) rfl rfl myX7_addFacet 160 mw_6_88 rfl [46, 48, 50] [0, 1, 2, 3, 4, 5, 6, 7, 8, 9, 10, 11, 12, 13, 14, 15, 16, 17, 18, 19, 20, 21, 22, 23, 24, 25, 26, 27, 28, 29, 30, 31, 32, 33, 34, 35, 36, 37, 38, 39, 40, 41, 42, 43, 44, 45, 47, 49, 51, 52, 53, 54, 55, 56, 57, 58, 59, 60] [0, 1, 2, 3, 4, 5, 6, 7, 8, 9, 10, 11, 12, 13, 14, 15, 16, 17, 18, 19, 20, 21, 22, 23, 24, 25, 26, 27, 28, 29, 30, 31, 32, 33, 34, 35, 36, 37, 38, 39, 40, 41, 42, 43, 44, 45, 58, 46, 59, 47, 60, 48, 49, 50, 51, 52, 53, 54, 55, 56, 57] (wr := ((wX6 Z a (mg_addFacet o res.2) ++ [(q, .inl (zJ Z, 1, .inr (.inl (outI g res.1))))]) ++ [((b2 1), .inl (zI Z, 300, .inl (q7_buffer r))), ((b2 3), .inl (zI Z, 12, .inl (q7_made r))), ((b2 5), .inl (zI Z, 12, .inl (q7_saved r))), ((b2 6), .inl (zI Z, 256, .inl (q7_closed r))), ((b2 7), .inl (zI Z, 256, .inl (q7_faces r))), ((b2 8), .inl (zI Z, 256, .inl (q7_rankOf r))), ((b2 9), .inl (zI Z, 256, .inl (q7_placeOf r))), ((b2 10), .inl (zI Z, 256, .inl (q7_counted r))), ((b2 11), .inl (zI Z, 10, .inl (q7_steps r))), ((b2 12), .inl (zI Z, 12, .inl (q7_onto r))), ((b2 13), .inl (zI Z, 8, .inl (q7_goes r))), ((b2 14), .inl (zI Z, 8, .inl (q7_firstImage r)))])) rfl rfl (by decide) (by decide) (by decide) (WS Z a b2 q (mg_addFacet o res.2) (mh_addFacet r res2.2) (outI g res.1)) rfl (by decide) (Nat.le_of_ble_eq_true rfl) (Nat.le_of_ble_eq_true rfl) (Nat.le_of_ble_eq_true rfl) ⟨by omega, by omega⟩ rfl dL_law_592 ?_
  refine g_istore C dL_law_595 (by decide) [(6, .int res2.1), (5, .int (hcd [1, 0] res.1)), (0, .ref b), (1, .ref (a 0)), (2, .ref (b2 0)), (3, .ref q), (4, .int i)] rfl ?_
  refine g_aload_n C dL_law_597 rfl 4 rfl ?_
  refine g_callVi C (kX7_thrown l Z (b2 0) (b2 1) (b2 2) (b2 3) (b2 4) (b2 5) (b2 6) (b2 7) (b2 8) (b2 9) (b2 10) (b2 11) (b2 12) (b2 13) (b2 14) (mh_addFacet r res2.2) (q7_thrown (mh_addFacet r res2.2)) rfl) 0 rfl (ci := 7) rfl rfl myX7_thrown 139 mw_5_170 rfl [46] [0, 1, 2, 3, 4, 5, 6, 7, 8, 9, 10, 11, 12, 13, 14, 15, 16, 17, 18, 19, 20, 21, 22, 23, 24, 25, 26, 27, 28, 29, 30, 31, 32, 33, 34, 35, 36, 37, 38, 39, 40, 41, 42, 43, 44, 45, 47, 48, 49, 50, 51, 52, 53, 54, 55, 56, 57, 58, 59, 60] [0, 1, 2, 3, 4, 5, 6, 7, 8, 9, 10, 11, 12, 13, 14, 15, 16, 17, 18, 19, 20, 21, 22, 23, 24, 25, 26, 27, 28, 29, 30, 31, 32, 33, 34, 35, 36, 37, 38, 39, 40, 41, 42, 43, 44, 45, 60, 46, 47, 48, 49, 50, 51, 52, 53, 54, 55, 56, 57, 58, 59] (wr := ((wX6 Z a (mg_addFacet o res.2) ++ [(q, .inl (zJ Z, 1, .inr (.inl (outI g res.1))))]) ++ [((b2 1), .inl (zI Z, 300, .inl (q7_buffer (mh_addFacet r res2.2)))), ((b2 2), .inl (zI Z, 12, .inl (q7_now (mh_addFacet r res2.2)))), ((b2 3), .inl (zI Z, 12, .inl (q7_made (mh_addFacet r res2.2)))), ((b2 4), .inl (zI Z, 96, .inl (q7_history (mh_addFacet r res2.2)))), ((b2 5), .inl (zI Z, 12, .inl (q7_saved (mh_addFacet r res2.2)))), ((b2 6), .inl (zI Z, 256, .inl (q7_closed (mh_addFacet r res2.2)))), ((b2 7), .inl (zI Z, 256, .inl (q7_faces (mh_addFacet r res2.2)))), ((b2 8), .inl (zI Z, 256, .inl (q7_rankOf (mh_addFacet r res2.2)))), ((b2 9), .inl (zI Z, 256, .inl (q7_placeOf (mh_addFacet r res2.2)))), ((b2 10), .inl (zI Z, 256, .inl (q7_counted (mh_addFacet r res2.2)))), ((b2 11), .inl (zI Z, 10, .inl (q7_steps (mh_addFacet r res2.2)))), ((b2 12), .inl (zI Z, 12, .inl (q7_onto (mh_addFacet r res2.2)))), ((b2 13), .inl (zI Z, 8, .inl (q7_goes (mh_addFacet r res2.2)))), ((b2 14), .inl (zI Z, 8, .inl (q7_firstImage (mh_addFacet r res2.2))))])) rfl rfl (by decide) (by decide) (by decide) (WS Z a b2 q (mg_addFacet o res.2) (mh_addFacet r res2.2) (outI g res.1)) rfl (by decide) (Nat.le_of_ble_eq_true rfl) (Nat.le_of_ble_eq_true rfl) (Nat.le_of_ble_eq_true rfl) ⟨by omega, by omega⟩ rfl dL_law_598 ?_
  refine g_iload C dL_law_601 1 rfl ?_
  refine g_icmp_eq C 608 dL_law_603 (by decide) (fun _ => ?_) (fun z => absurd H3 z)
  refine g_iload C dL_law_608 1 rfl ?_
  refine g_if_ne C 625 dL_law_610 (by decide) (fun c2 => ?_) (fun c2 => ?_)
  · skip
    refine g_goto C 2645 dL_law_625 (by decide) ?_
    refine g_lv [2, 3, 4, 5, 6] [(0, .ref b), (1, .ref (a 0)), (2, .ref (b2 0)), (3, .ref q), (4, .int i)] rfl ?_
    exact g_widen (cells + 3) (slots + 18) (by omega) (by omega) K
  · obtain ⟨v, hv⟩ := hcd_zero [1, 0] (by decide) c2
    refine g_aload_n C dL_law_613 rfl 5 rfl ?_
    refine g_iconst C 0 dL_law_614 (by decide) ?_
    refine g_lald C 45 rfl (by decide) dL_law_615 ?_
    refine g_iload C dL_law_616 0 rfl ?_
    refine g_i2l C dL_law_618 ?_
    refine g_lcmp C dL_law_619 ?_
    refine g_if_eq C 625 dL_law_620 (by decide) (fun _ => ?_) (fun z => absurd (by rw [hv, H4 v hv, outI_at]; exact lcmp_self _) z)
    refine g_goto C 2645 dL_law_625 (by decide) ?_
    refine g_lv [2, 3, 4, 5, 6] [(0, .ref b), (1, .ref (a 0)), (2, .ref (b2 0)), (3, .ref q), (4, .int i)] rfl ?_
    exact g_widen (cells + 3) (slots + 18) (by omega) (by omega) K
set_option maxRecDepth 100000 in
set_option maxHeartbeats 4000000 in
theorem lc_6 {p : Program} {l : Launch} {e : Env} {s : State} {m : MethodId} {below : List Frame} {meth : Method} {c : Code} {Z : GZ} {Y : YZ} {A : Nat → Prop} {Q : State → Prop} {cells slots b L q : Nat} {xs : Nat → Int32} {i : Int32} {a b2 : Nat → Nat} {o : OX6} {r : OX7} {g : Nat → Int64} (C : Cx p s m #[.ref b] c code 7 RL Z A) (hX : XT Y A s s.heap) (hN : XNo s) (hst : l.stackTraces = false) (hSc : va_X b L xs s s.heap) (hbl : b < s.heap.size) (hbA : ¬ A b) (hR1 : cells + 3 ≤ room_1.cells) (hR2 : slots + 18 ≤ room_1.slots) (h1 : vp_in (i + 1) L) {res : (Nat ⊕ Int32) × OX6} {res2 : Int32 × OX7} (H1 : fX6_removeFacet o (xs (ix (i + 1))) = some res) (H2 : fX7_removeFacet r (xs (ix (i + 1))) = some res2) (Hk : ∀ k, res.1 = .inl k → k = 2) (H3 : q7_thrown (mh_removeFacet r res2.2) = hcd [2] res.1) (H4 : ∀ v, res.1 = .inr v → res2.1 = v) (K : Gw p l e room_1 s m #[.ref b] below meth c 7 Z A Q (cells + 3) (slots + 18) (2645) [(0, .ref b), (1, .ref (a 0)), (2, .ref (b2 0)), (3, .ref q), (4, .int i)] [] (WS Z a b2 q (mg_removeFacet o res.2) (mh_removeFacet r res2.2) (outI g res.1))) : Gw p l e room_1 s m #[.ref b] below meth c 7 Z A Q (cells) (slots) (628) [(0, .ref b), (1, .ref (a 0)), (2, .ref (b2 0)), (3, .ref q), (4, .int i)] [] (WS Z a b2 q o r g) := by
  refine g_aload_n C dL_law_628 rfl 1 rfl ?_
  refine g_aload_n C dL_law_629 rfl 0 rfl ?_
  refine g_iload C dL_law_630 4 rfl ?_
  refine g_iconst C 1 dL_law_632 (by decide) ?_
  refine g_iadd C dL_law_633 ?_
  refine g_sld C hSc hbl hbA h1 dL_law_634 ?_
  refine g_aload_n C dL_law_635 rfl 3 rfl ?_
  refine gx_callL C hX hN (kL_removeFacet l hst Z Y a q o g (xs (ix (i + 1))) res H1 Hk) mw_3_239 mw_1_0 mw_3_238 ⟨by decide +kernel, by decide +kernel⟩ (n := 3) (by decide +kernel) 161 mw_3_237 rfl [0, 1, 2, 3, 4, 5, 6, 7, 8, 9, 10, 11, 12, 13, 14, 15, 16, 17, 18, 19, 20, 21, 22, 23, 24, 25, 26, 27, 28, 29, 30, 31, 32, 33, 34, 35, 36, 37, 38, 39, 40, 41, 42, 43, 44, 45] [46, 47, 48, 49, 50, 51, 52, 53, 54, 55, 56, 57, 58, 59, 60] [15, 16, 17, 18, 19, 20, 21, 22, 23, 24, 25, 26, 27, 28, 29, 30, 31, 32, 33, 34, 35, 36, 37, 38, 39, 40, 41, 42, 43, 44, 45, 46, 47, 48, 49, 50, 51, 52, 53, 54, 55, 56, 57, 58, 59, 60, 0, 1, 2, 3, 4, 5, 6, 7, 8, 9, 10, 11, 12, 13, 14] (wr := wX7 Z b2 r) rfl rfl (by decide) (by decide) (by decide) (WS Z a b2 q (mg_removeFacet o res.2) r (outI g res.1)) rfl (by decide) (Nat.le_of_ble_eq_true rfl) (Nat.le_of_ble_eq_true rfl) (Nat.le_of_ble_eq_true rfl) ⟨by omega, by omega⟩ rfl dL_law_636 ?_
  refine g_istore C dL_law_639 (by decide) [(5, .int (hcd [2] res.1)), (0, .ref b), (1, .ref (a 0)), (2, .ref (b2 0)), (3, .ref q), (4, .int i)] rfl ?_
  refine g_aload_n C dL_law_641 rfl 3 rfl ?_
  refine g_aload_n C dL_law_642 rfl 1 rfl ?_
  refine g_iload C dL_law_643 5 rfl ?_
  refine g_iconst C 1 dL_law_645 (by decide) ?_
  refine g_iadd C dL_law_646 ?_
  refine g_sld C hSc hbl hbA h1 dL_law_647 ?_
  refine g_callVi C (kX7_removeFacet l Z (b2 0) (b2 1) (b2 2) (b2 3) (b2 4) (b2 5) (b2 6) (b2 7) (b2 8) (b2 9) (b2 10) (b2 11) (b2 12) (b2 13) (b2 14) r (xs (ix (i + 1))) res2 H2) 0 rfl (ci := 7) rfl rfl myX7_removeFacet 163 mw_6_100 rfl [46, 48, 50] [0, 1, 2, 3, 4, 5, 6, 7, 8, 9, 10, 11, 12, 13, 14, 15, 16, 17, 18, 19, 20, 21, 22, 23, 24, 25, 26, 27, 28, 29, 30, 31, 32, 33, 34, 35, 36, 37, 38, 39, 40, 41, 42, 43, 44, 45, 47, 49, 51, 52, 53, 54, 55, 56, 57, 58, 59, 60] [0, 1, 2, 3, 4, 5, 6, 7, 8, 9, 10, 11, 12, 13, 14, 15, 16, 17, 18, 19, 20, 21, 22, 23, 24, 25, 26, 27, 28, 29, 30, 31, 32, 33, 34, 35, 36, 37, 38, 39, 40, 41, 42, 43, 44, 45, 58, 46, 59, 47, 60, 48, 49, 50, 51, 52, 53, 54, 55, 56, 57] (wr := ((wX6 Z a (mg_removeFacet o res.2) ++ [(q, .inl (zJ Z, 1, .inr (.inl (outI g res.1))))]) ++ [((b2 1), .inl (zI Z, 300, .inl (q7_buffer r))), ((b2 3), .inl (zI Z, 12, .inl (q7_made r))), ((b2 5), .inl (zI Z, 12, .inl (q7_saved r))), ((b2 6), .inl (zI Z, 256, .inl (q7_closed r))), ((b2 7), .inl (zI Z, 256, .inl (q7_faces r))), ((b2 8), .inl (zI Z, 256, .inl (q7_rankOf r))), ((b2 9), .inl (zI Z, 256, .inl (q7_placeOf r))), ((b2 10), .inl (zI Z, 256, .inl (q7_counted r))), ((b2 11), .inl (zI Z, 10, .inl (q7_steps r))), ((b2 12), .inl (zI Z, 12, .inl (q7_onto r))), ((b2 13), .inl (zI Z, 8, .inl (q7_goes r))), ((b2 14), .inl (zI Z, 8, .inl (q7_firstImage r)))])) rfl rfl (by decide) (by decide) (by decide) (WS Z a b2 q (mg_removeFacet o res.2) (mh_removeFacet r res2.2) (outI g res.1)) rfl (by decide) (Nat.le_of_ble_eq_true rfl) (Nat.le_of_ble_eq_true rfl) (Nat.le_of_ble_eq_true rfl) ⟨by omega, by omega⟩ rfl dL_law_648 ?_
  refine g_istore C dL_law_651 (by decide) [(6, .int res2.1), (5, .int (hcd [2] res.1)), (0, .ref b), (1, .ref (a 0)), (2, .ref (b2 0)), (3, .ref q), (4, .int i)] rfl ?_
  refine g_aload_n C dL_law_653 rfl 4 rfl ?_
  refine g_callVi C (kX7_thrown l Z (b2 0) (b2 1) (b2 2) (b2 3) (b2 4) (b2 5) (b2 6) (b2 7) (b2 8) (b2 9) (b2 10) (b2 11) (b2 12) (b2 13) (b2 14) (mh_removeFacet r res2.2) (q7_thrown (mh_removeFacet r res2.2)) rfl) 0 rfl (ci := 7) rfl rfl myX7_thrown 139 mw_5_170 rfl [46] [0, 1, 2, 3, 4, 5, 6, 7, 8, 9, 10, 11, 12, 13, 14, 15, 16, 17, 18, 19, 20, 21, 22, 23, 24, 25, 26, 27, 28, 29, 30, 31, 32, 33, 34, 35, 36, 37, 38, 39, 40, 41, 42, 43, 44, 45, 47, 48, 49, 50, 51, 52, 53, 54, 55, 56, 57, 58, 59, 60] [0, 1, 2, 3, 4, 5, 6, 7, 8, 9, 10, 11, 12, 13, 14, 15, 16, 17, 18, 19, 20, 21, 22, 23, 24, 25, 26, 27, 28, 29, 30, 31, 32, 33, 34, 35, 36, 37, 38, 39, 40, 41, 42, 43, 44, 45, 60, 46, 47, 48, 49, 50, 51, 52, 53, 54, 55, 56, 57, 58, 59] (wr := ((wX6 Z a (mg_removeFacet o res.2) ++ [(q, .inl (zJ Z, 1, .inr (.inl (outI g res.1))))]) ++ [((b2 1), .inl (zI Z, 300, .inl (q7_buffer (mh_removeFacet r res2.2)))), ((b2 2), .inl (zI Z, 12, .inl (q7_now (mh_removeFacet r res2.2)))), ((b2 3), .inl (zI Z, 12, .inl (q7_made (mh_removeFacet r res2.2)))), ((b2 4), .inl (zI Z, 96, .inl (q7_history (mh_removeFacet r res2.2)))), ((b2 5), .inl (zI Z, 12, .inl (q7_saved (mh_removeFacet r res2.2)))), ((b2 6), .inl (zI Z, 256, .inl (q7_closed (mh_removeFacet r res2.2)))), ((b2 7), .inl (zI Z, 256, .inl (q7_faces (mh_removeFacet r res2.2)))), ((b2 8), .inl (zI Z, 256, .inl (q7_rankOf (mh_removeFacet r res2.2)))), ((b2 9), .inl (zI Z, 256, .inl (q7_placeOf (mh_removeFacet r res2.2)))), ((b2 10), .inl (zI Z, 256, .inl (q7_counted (mh_removeFacet r res2.2)))), ((b2 11), .inl (zI Z, 10, .inl (q7_steps (mh_removeFacet r res2.2)))), ((b2 12), .inl (zI Z, 12, .inl (q7_onto (mh_removeFacet r res2.2)))), ((b2 13), .inl (zI Z, 8, .inl (q7_goes (mh_removeFacet r res2.2)))), ((b2 14), .inl (zI Z, 8, .inl (q7_firstImage (mh_removeFacet r res2.2))))])) rfl rfl (by decide) (by decide) (by decide) (WS Z a b2 q (mg_removeFacet o res.2) (mh_removeFacet r res2.2) (outI g res.1)) rfl (by decide) (Nat.le_of_ble_eq_true rfl) (Nat.le_of_ble_eq_true rfl) (Nat.le_of_ble_eq_true rfl) ⟨by omega, by omega⟩ rfl dL_law_654 ?_
  refine g_iload C dL_law_657 1 rfl ?_
  refine g_icmp_eq C 664 dL_law_659 (by decide) (fun _ => ?_) (fun z => absurd H3 z)
  refine g_iload C dL_law_664 1 rfl ?_
  refine g_if_ne C 681 dL_law_666 (by decide) (fun c2 => ?_) (fun c2 => ?_)
  · skip
    refine g_goto C 2645 dL_law_681 (by decide) ?_
    refine g_lv [2, 3, 4, 5, 6] [(0, .ref b), (1, .ref (a 0)), (2, .ref (b2 0)), (3, .ref q), (4, .int i)] rfl ?_
    exact g_widen (cells + 3) (slots + 18) (by omega) (by omega) K
  · obtain ⟨v, hv⟩ := hcd_zero [2] (by decide) c2
    refine g_aload_n C dL_law_669 rfl 5 rfl ?_
    refine g_iconst C 0 dL_law_670 (by decide) ?_
    refine g_lald C 45 rfl (by decide) dL_law_671 ?_
    refine g_iload C dL_law_672 0 rfl ?_
    refine g_i2l C dL_law_674 ?_
    refine g_lcmp C dL_law_675 ?_
    refine g_if_eq C 681 dL_law_676 (by decide) (fun _ => ?_) (fun z => absurd (by rw [hv, H4 v hv, outI_at]; exact lcmp_self _) z)
    refine g_goto C 2645 dL_law_681 (by decide) ?_
    refine g_lv [2, 3, 4, 5, 6] [(0, .ref b), (1, .ref (a 0)), (2, .ref (b2 0)), (3, .ref q), (4, .int i)] rfl ?_
    exact g_widen (cells + 3) (slots + 18) (by omega) (by omega) K
set_option maxRecDepth 100000 in
set_option maxHeartbeats 4000000 in
theorem lc_7 {p : Program} {l : Launch} {e : Env} {s : State} {m : MethodId} {below : List Frame} {meth : Method} {c : Code} {Z : GZ} {Y : YZ} {A : Nat → Prop} {Q : State → Prop} {cells slots b L q : Nat} {xs : Nat → Int32} {i : Int32} {a b2 : Nat → Nat} {o : OX6} {r : OX7} {g : Nat → Int64} (C : Cx p s m #[.ref b] c code 7 RL Z A) (hX : XT Y A s s.heap) (hN : XNo s) (hst : l.stackTraces = false) (hSc : va_X b L xs s s.heap) (hbl : b < s.heap.size) (hbA : ¬ A b) (hR1 : cells + 3 ≤ room_1.cells) (hR2 : slots + 18 ≤ room_1.slots) {res : (Nat ⊕ Int32) × OX6} {res2 : Int32 × OX7} (H1 : fX6_dual o = some res) (H2 : fX7_dual r = some res2) (Hk : ∀ k, res.1 = .inl k → k = 0) (H3 : q7_thrown (mh_dual r res2.2) = hcd [0] res.1) (H4 : ∀ v, res.1 = .inr v → res2.1 = v) (K : Gw p l e room_1 s m #[.ref b] below meth c 7 Z A Q (cells + 3) (slots + 18) (2645) [(0, .ref b), (1, .ref (a 0)), (2, .ref (b2 0)), (3, .ref q), (4, .int i)] [] (WS Z a b2 q (mg_dual o res.2) (mh_dual r res2.2) (outI g res.1))) : Gw p l e room_1 s m #[.ref b] below meth c 7 Z A Q (cells) (slots) (684) [(0, .ref b), (1, .ref (a 0)), (2, .ref (b2 0)), (3, .ref q), (4, .int i)] [] (WS Z a b2 q o r g) := by
  refine g_aload_n C dL_law_684 rfl 1 rfl ?_
  refine g_aload_n C dL_law_685 rfl 3 rfl ?_
  refine gx_callL C hX hN (kL_dual l hst Z Y a q o g res H1 Hk) mw_4_10 mw_1_0 mw_4_9 ⟨by decide +kernel, by decide +kernel⟩ (n := 2) (by decide +kernel) 164 mw_4_8 rfl [0, 1, 2, 3, 4, 5, 6, 7, 8, 9, 10, 11, 12, 13, 14, 15, 16, 17, 18, 19, 20, 21, 22, 23, 24, 25, 26, 27, 28, 29, 30, 31, 32, 33, 34, 35, 36, 37, 38, 39, 40, 41, 42, 43, 44, 45] [46, 47, 48, 49, 50, 51, 52, 53, 54, 55, 56, 57, 58, 59, 60] [15, 16, 17, 18, 19, 20, 21, 22, 23, 24, 25, 26, 27, 28, 29, 30, 31, 32, 33, 34, 35, 36, 37, 38, 39, 40, 41, 42, 43, 44, 45, 46, 47, 48, 49, 50, 51, 52, 53, 54, 55, 56, 57, 58, 59, 60, 0, 1, 2, 3, 4, 5, 6, 7, 8, 9, 10, 11, 12, 13, 14] (wr := wX7 Z b2 r) rfl rfl (by decide) (by decide) (by decide) (WS Z a b2 q (mg_dual o res.2) r (outI g res.1)) rfl (by decide) (Nat.le_of_ble_eq_true rfl) (Nat.le_of_ble_eq_true rfl) (Nat.le_of_ble_eq_true rfl) ⟨by omega, by omega⟩ rfl dL_law_686 ?_
  refine g_istore C dL_law_689 (by decide) [(5, .int (hcd [0] res.1)), (0, .ref b), (1, .ref (a 0)), (2, .ref (b2 0)), (3, .ref q), (4, .int i)] rfl ?_
  refine g_aload_n C dL_law_691 rfl 3 rfl ?_
  refine g_callVi C (kX7_dual l Z (b2 0) (b2 1) (b2 2) (b2 3) (b2 4) (b2 5) (b2 6) (b2 7) (b2 8) (b2 9) (b2 10) (b2 11) (b2 12) (b2 13) (b2 14) r res2 H2) 0 rfl (ci := 7) rfl rfl myX7_dual 166 mw_6_108 rfl [46, 48, 49, 50, 52, 53, 54, 55] [0, 1, 2, 3, 4, 5, 6, 7, 8, 9, 10, 11, 12, 13, 14, 15, 16, 17, 18, 19, 20, 21, 22, 23, 24, 25, 26, 27, 28, 29, 30, 31, 32, 33, 34, 35, 36, 37, 38, 39, 40, 41, 42, 43, 44, 45, 47, 51, 56, 57, 58, 59, 60] [0, 1, 2, 3, 4, 5, 6, 7, 8, 9, 10, 11, 12, 13, 14, 15, 16, 17, 18, 19, 20, 21, 22, 23, 24, 25, 26, 27, 28, 29, 30, 31, 32, 33, 34, 35, 36, 37, 38, 39, 40, 41, 42, 43, 44, 45, 53, 46, 54, 55, 56, 47, 57, 58, 59, 60, 48, 49, 50, 51, 52] (wr := ((wX6 Z a (mg_dual o res.2) ++ [(q, .inl (zJ Z, 1, .inr (.inl (outI g res.1))))]) ++ [((b2 1), .inl (zI Z, 300, .inl (q7_buffer r))), ((b2 5), .inl (zI Z, 12, .inl (q7_saved r))), ((b2 10), .inl (zI Z, 256, .inl (q7_counted r))), ((b2 11), .inl (zI Z, 10, .inl (q7_steps r))), ((b2 12), .inl (zI Z, 12, .inl (q7_onto r))), ((b2 13), .inl (zI Z, 8, .inl (q7_goes r))), ((b2 14), .inl (zI Z, 8, .inl (q7_firstImage r)))])) rfl rfl (by decide) (by decide) (by decide) (WS Z a b2 q (mg_dual o res.2) (mh_dual r res2.2) (outI g res.1)) rfl (by decide) (Nat.le_of_ble_eq_true rfl) (Nat.le_of_ble_eq_true rfl) (Nat.le_of_ble_eq_true rfl) ⟨by omega, by omega⟩ rfl dL_law_692 ?_
  refine g_istore C dL_law_695 (by decide) [(6, .int res2.1), (5, .int (hcd [0] res.1)), (0, .ref b), (1, .ref (a 0)), (2, .ref (b2 0)), (3, .ref q), (4, .int i)] rfl ?_
  refine g_aload_n C dL_law_697 rfl 4 rfl ?_
  refine g_callVi C (kX7_thrown l Z (b2 0) (b2 1) (b2 2) (b2 3) (b2 4) (b2 5) (b2 6) (b2 7) (b2 8) (b2 9) (b2 10) (b2 11) (b2 12) (b2 13) (b2 14) (mh_dual r res2.2) (q7_thrown (mh_dual r res2.2)) rfl) 0 rfl (ci := 7) rfl rfl myX7_thrown 139 mw_5_170 rfl [46] [0, 1, 2, 3, 4, 5, 6, 7, 8, 9, 10, 11, 12, 13, 14, 15, 16, 17, 18, 19, 20, 21, 22, 23, 24, 25, 26, 27, 28, 29, 30, 31, 32, 33, 34, 35, 36, 37, 38, 39, 40, 41, 42, 43, 44, 45, 47, 48, 49, 50, 51, 52, 53, 54, 55, 56, 57, 58, 59, 60] [0, 1, 2, 3, 4, 5, 6, 7, 8, 9, 10, 11, 12, 13, 14, 15, 16, 17, 18, 19, 20, 21, 22, 23, 24, 25, 26, 27, 28, 29, 30, 31, 32, 33, 34, 35, 36, 37, 38, 39, 40, 41, 42, 43, 44, 45, 60, 46, 47, 48, 49, 50, 51, 52, 53, 54, 55, 56, 57, 58, 59] (wr := ((wX6 Z a (mg_dual o res.2) ++ [(q, .inl (zJ Z, 1, .inr (.inl (outI g res.1))))]) ++ [((b2 1), .inl (zI Z, 300, .inl (q7_buffer (mh_dual r res2.2)))), ((b2 2), .inl (zI Z, 12, .inl (q7_now (mh_dual r res2.2)))), ((b2 3), .inl (zI Z, 12, .inl (q7_made (mh_dual r res2.2)))), ((b2 4), .inl (zI Z, 96, .inl (q7_history (mh_dual r res2.2)))), ((b2 5), .inl (zI Z, 12, .inl (q7_saved (mh_dual r res2.2)))), ((b2 6), .inl (zI Z, 256, .inl (q7_closed (mh_dual r res2.2)))), ((b2 7), .inl (zI Z, 256, .inl (q7_faces (mh_dual r res2.2)))), ((b2 8), .inl (zI Z, 256, .inl (q7_rankOf (mh_dual r res2.2)))), ((b2 9), .inl (zI Z, 256, .inl (q7_placeOf (mh_dual r res2.2)))), ((b2 10), .inl (zI Z, 256, .inl (q7_counted (mh_dual r res2.2)))), ((b2 11), .inl (zI Z, 10, .inl (q7_steps (mh_dual r res2.2)))), ((b2 12), .inl (zI Z, 12, .inl (q7_onto (mh_dual r res2.2)))), ((b2 13), .inl (zI Z, 8, .inl (q7_goes (mh_dual r res2.2)))), ((b2 14), .inl (zI Z, 8, .inl (q7_firstImage (mh_dual r res2.2))))])) rfl rfl (by decide) (by decide) (by decide) (WS Z a b2 q (mg_dual o res.2) (mh_dual r res2.2) (outI g res.1)) rfl (by decide) (Nat.le_of_ble_eq_true rfl) (Nat.le_of_ble_eq_true rfl) (Nat.le_of_ble_eq_true rfl) ⟨by omega, by omega⟩ rfl dL_law_698 ?_
  refine g_iload C dL_law_701 1 rfl ?_
  refine g_icmp_eq C 708 dL_law_703 (by decide) (fun _ => ?_) (fun z => absurd H3 z)
  refine g_iload C dL_law_708 1 rfl ?_
  refine g_if_ne C 725 dL_law_710 (by decide) (fun c2 => ?_) (fun c2 => ?_)
  · skip
    refine g_goto C 2645 dL_law_725 (by decide) ?_
    refine g_lv [2, 3, 4, 5, 6] [(0, .ref b), (1, .ref (a 0)), (2, .ref (b2 0)), (3, .ref q), (4, .int i)] rfl ?_
    exact g_widen (cells + 3) (slots + 18) (by omega) (by omega) K
  · obtain ⟨v, hv⟩ := hcd_zero [0] (by decide) c2
    refine g_aload_n C dL_law_713 rfl 5 rfl ?_
    refine g_iconst C 0 dL_law_714 (by decide) ?_
    refine g_lald C 45 rfl (by decide) dL_law_715 ?_
    refine g_iload C dL_law_716 0 rfl ?_
    refine g_i2l C dL_law_718 ?_
    refine g_lcmp C dL_law_719 ?_
    refine g_if_eq C 725 dL_law_720 (by decide) (fun _ => ?_) (fun z => absurd (by rw [hv, H4 v hv, outI_at]; exact lcmp_self _) z)
    refine g_goto C 2645 dL_law_725 (by decide) ?_
    refine g_lv [2, 3, 4, 5, 6] [(0, .ref b), (1, .ref (a 0)), (2, .ref (b2 0)), (3, .ref q), (4, .int i)] rfl ?_
    exact g_widen (cells + 3) (slots + 18) (by omega) (by omega) K
set_option maxRecDepth 100000 in
set_option maxHeartbeats 4000000 in
theorem lc_8 {p : Program} {l : Launch} {e : Env} {s : State} {m : MethodId} {below : List Frame} {meth : Method} {c : Code} {Z : GZ} {Y : YZ} {A : Nat → Prop} {Q : State → Prop} {cells slots b L q : Nat} {xs : Nat → Int32} {i : Int32} {a b2 : Nat → Nat} {o : OX6} {r : OX7} {g : Nat → Int64} (C : Cx p s m #[.ref b] c code 7 RL Z A) (hX : XT Y A s s.heap) (hN : XNo s) (hst : l.stackTraces = false) (hSc : va_X b L xs s s.heap) (hbl : b < s.heap.size) (hbA : ¬ A b) (hR1 : cells + 3 ≤ room_1.cells) (hR2 : slots + 18 ≤ room_1.slots) {res : (Nat ⊕ Int32) × OX6} {res2 : Int32 × OX7} (H1 : fX6_pyramid o = some res) (H2 : fX7_pyramid r = some res2) (Hk : ∀ k, res.1 = .inl k → k = 0) (H3 : q7_thrown (mh_pyramid r res2.2) = hcd [0] res.1) (H4 : ∀ v, res.1 = .inr v → res2.1 = v) (K : Gw p l e room_1 s m #[.ref b] below meth c 7 Z A Q (cells + 3) (slots + 18) (2645) [(0, .ref b), (1, .ref (a 0)), (2, .ref (b2 0)), (3, .ref q), (4, .int i)] [] (WS Z a b2 q (mg_pyramid o res.2) (mh_pyramid r res2.2) (outI g res.1))) : Gw p l e room_1 s m #[.ref b] below meth c 7 Z A Q (cells) (slots) (728) [(0, .ref b), (1, .ref (a 0)), (2, .ref (b2 0)), (3, .ref q), (4, .int i)] [] (WS Z a b2 q o r g) := by
  refine g_aload_n C dL_law_728 rfl 1 rfl ?_
  refine g_aload_n C dL_law_729 rfl 3 rfl ?_
  refine gx_callL C hX hN (kL_pyramid l hst Z Y a q o g res H1 Hk) mw_4_23 mw_1_0 mw_4_22 ⟨by decide +kernel, by decide +kernel⟩ (n := 2) (by decide +kernel) 167 mw_4_21 rfl [0, 1, 2, 3, 4, 5, 6, 7, 8, 9, 10, 11, 12, 13, 14, 15, 16, 17, 18, 19, 20, 21, 22, 23, 24, 25, 26, 27, 28, 29, 30, 31, 32, 33, 34, 35, 36, 37, 38, 39, 40, 41, 42, 43, 44, 45] [46, 47, 48, 49, 50, 51, 52, 53, 54, 55, 56, 57, 58, 59, 60] [15, 16, 17, 18, 19, 20, 21, 22, 23, 24, 25, 26, 27, 28, 29, 30, 31, 32, 33, 34, 35, 36, 37, 38, 39, 40, 41, 42, 43, 44, 45, 46, 47, 48, 49, 50, 51, 52, 53, 54, 55, 56, 57, 58, 59, 60, 0, 1, 2, 3, 4, 5, 6, 7, 8, 9, 10, 11, 12, 13, 14] (wr := wX7 Z b2 r) rfl rfl (by decide) (by decide) (by decide) (WS Z a b2 q (mg_pyramid o res.2) r (outI g res.1)) rfl (by decide) (Nat.le_of_ble_eq_true rfl) (Nat.le_of_ble_eq_true rfl) (Nat.le_of_ble_eq_true rfl) ⟨by omega, by omega⟩ rfl dL_law_730 ?_
  refine g_istore C dL_law_733 (by decide) [(5, .int (hcd [0] res.1)), (0, .ref b), (1, .ref (a 0)), (2, .ref (b2 0)), (3, .ref q), (4, .int i)] rfl ?_
  refine g_aload_n C dL_law_735 rfl 3 rfl ?_
  refine g_callVi C (kX7_pyramid l Z (b2 0) (b2 1) (b2 2) (b2 3) (b2 4) (b2 5) (b2 6) (b2 7) (b2 8) (b2 9) (b2 10) (b2 11) (b2 12) (b2 13) (b2 14) r res2 H2) 0 rfl (ci := 7) rfl rfl myX7_pyramid 169 mw_6_140 rfl [46, 48, 49, 50, 52, 53, 54, 55] [0, 1, 2, 3, 4, 5, 6, 7, 8, 9, 10, 11, 12, 13, 14, 15, 16, 17, 18, 19, 20, 21, 22, 23, 24, 25, 26, 27, 28, 29, 30, 31, 32, 33, 34, 35, 36, 37, 38, 39, 40, 41, 42, 43, 44, 45, 47, 51, 56, 57, 58, 59, 60] [0, 1, 2, 3, 4, 5, 6, 7, 8, 9, 10, 11, 12, 13, 14, 15, 16, 17, 18, 19, 20, 21, 22, 23, 24, 25, 26, 27, 28, 29, 30, 31, 32, 33, 34, 35, 36, 37, 38, 39, 40, 41, 42, 43, 44, 45, 53, 46, 54, 55, 56, 47, 57, 58, 59, 60, 48, 49, 50, 51, 52] (wr := ((wX6 Z a (mg_pyramid o res.2) ++ [(q, .inl (zJ Z, 1, .inr (.inl (outI g res.1))))]) ++ [((b2 1), .inl (zI Z, 300, .inl (q7_buffer r))), ((b2 5), .inl (zI Z, 12, .inl (q7_saved r))), ((b2 10), .inl (zI Z, 256, .inl (q7_counted r))), ((b2 11), .inl (zI Z, 10, .inl (q7_steps r))), ((b2 12), .inl (zI Z, 12, .inl (q7_onto r))), ((b2 13), .inl (zI Z, 8, .inl (q7_goes r))), ((b2 14), .inl (zI Z, 8, .inl (q7_firstImage r)))])) rfl rfl (by decide) (by decide) (by decide) (WS Z a b2 q (mg_pyramid o res.2) (mh_pyramid r res2.2) (outI g res.1)) rfl (by decide) (Nat.le_of_ble_eq_true rfl) (Nat.le_of_ble_eq_true rfl) (Nat.le_of_ble_eq_true rfl) ⟨by omega, by omega⟩ rfl dL_law_736 ?_
  refine g_istore C dL_law_739 (by decide) [(6, .int res2.1), (5, .int (hcd [0] res.1)), (0, .ref b), (1, .ref (a 0)), (2, .ref (b2 0)), (3, .ref q), (4, .int i)] rfl ?_
  refine g_aload_n C dL_law_741 rfl 4 rfl ?_
  refine g_callVi C (kX7_thrown l Z (b2 0) (b2 1) (b2 2) (b2 3) (b2 4) (b2 5) (b2 6) (b2 7) (b2 8) (b2 9) (b2 10) (b2 11) (b2 12) (b2 13) (b2 14) (mh_pyramid r res2.2) (q7_thrown (mh_pyramid r res2.2)) rfl) 0 rfl (ci := 7) rfl rfl myX7_thrown 139 mw_5_170 rfl [46] [0, 1, 2, 3, 4, 5, 6, 7, 8, 9, 10, 11, 12, 13, 14, 15, 16, 17, 18, 19, 20, 21, 22, 23, 24, 25, 26, 27, 28, 29, 30, 31, 32, 33, 34, 35, 36, 37, 38, 39, 40, 41, 42, 43, 44, 45, 47, 48, 49, 50, 51, 52, 53, 54, 55, 56, 57, 58, 59, 60] [0, 1, 2, 3, 4, 5, 6, 7, 8, 9, 10, 11, 12, 13, 14, 15, 16, 17, 18, 19, 20, 21, 22, 23, 24, 25, 26, 27, 28, 29, 30, 31, 32, 33, 34, 35, 36, 37, 38, 39, 40, 41, 42, 43, 44, 45, 60, 46, 47, 48, 49, 50, 51, 52, 53, 54, 55, 56, 57, 58, 59] (wr := ((wX6 Z a (mg_pyramid o res.2) ++ [(q, .inl (zJ Z, 1, .inr (.inl (outI g res.1))))]) ++ [((b2 1), .inl (zI Z, 300, .inl (q7_buffer (mh_pyramid r res2.2)))), ((b2 2), .inl (zI Z, 12, .inl (q7_now (mh_pyramid r res2.2)))), ((b2 3), .inl (zI Z, 12, .inl (q7_made (mh_pyramid r res2.2)))), ((b2 4), .inl (zI Z, 96, .inl (q7_history (mh_pyramid r res2.2)))), ((b2 5), .inl (zI Z, 12, .inl (q7_saved (mh_pyramid r res2.2)))), ((b2 6), .inl (zI Z, 256, .inl (q7_closed (mh_pyramid r res2.2)))), ((b2 7), .inl (zI Z, 256, .inl (q7_faces (mh_pyramid r res2.2)))), ((b2 8), .inl (zI Z, 256, .inl (q7_rankOf (mh_pyramid r res2.2)))), ((b2 9), .inl (zI Z, 256, .inl (q7_placeOf (mh_pyramid r res2.2)))), ((b2 10), .inl (zI Z, 256, .inl (q7_counted (mh_pyramid r res2.2)))), ((b2 11), .inl (zI Z, 10, .inl (q7_steps (mh_pyramid r res2.2)))), ((b2 12), .inl (zI Z, 12, .inl (q7_onto (mh_pyramid r res2.2)))), ((b2 13), .inl (zI Z, 8, .inl (q7_goes (mh_pyramid r res2.2)))), ((b2 14), .inl (zI Z, 8, .inl (q7_firstImage (mh_pyramid r res2.2))))])) rfl rfl (by decide) (by decide) (by decide) (WS Z a b2 q (mg_pyramid o res.2) (mh_pyramid r res2.2) (outI g res.1)) rfl (by decide) (Nat.le_of_ble_eq_true rfl) (Nat.le_of_ble_eq_true rfl) (Nat.le_of_ble_eq_true rfl) ⟨by omega, by omega⟩ rfl dL_law_742 ?_
  refine g_iload C dL_law_745 1 rfl ?_
  refine g_icmp_eq C 752 dL_law_747 (by decide) (fun _ => ?_) (fun z => absurd H3 z)
  refine g_iload C dL_law_752 1 rfl ?_
  refine g_if_ne C 769 dL_law_754 (by decide) (fun c2 => ?_) (fun c2 => ?_)
  · skip
    refine g_goto C 2645 dL_law_769 (by decide) ?_
    refine g_lv [2, 3, 4, 5, 6] [(0, .ref b), (1, .ref (a 0)), (2, .ref (b2 0)), (3, .ref q), (4, .int i)] rfl ?_
    exact g_widen (cells + 3) (slots + 18) (by omega) (by omega) K
  · obtain ⟨v, hv⟩ := hcd_zero [0] (by decide) c2
    refine g_aload_n C dL_law_757 rfl 5 rfl ?_
    refine g_iconst C 0 dL_law_758 (by decide) ?_
    refine g_lald C 45 rfl (by decide) dL_law_759 ?_
    refine g_iload C dL_law_760 0 rfl ?_
    refine g_i2l C dL_law_762 ?_
    refine g_lcmp C dL_law_763 ?_
    refine g_if_eq C 769 dL_law_764 (by decide) (fun _ => ?_) (fun z => absurd (by rw [hv, H4 v hv, outI_at]; exact lcmp_self _) z)
    refine g_goto C 2645 dL_law_769 (by decide) ?_
    refine g_lv [2, 3, 4, 5, 6] [(0, .ref b), (1, .ref (a 0)), (2, .ref (b2 0)), (3, .ref q), (4, .int i)] rfl ?_
    exact g_widen (cells + 3) (slots + 18) (by omega) (by omega) K

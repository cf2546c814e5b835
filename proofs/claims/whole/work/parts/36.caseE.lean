set_option maxRecDepth 100000 in
set_option maxHeartbeats 4000000 in
theorem lc_41 {p : Program} {l : Launch} {e : Env} {s : State} {m : MethodId} {below : List Frame} {meth : Method} {c : Code} {Z : GZ} {Y : YZ} {A : Nat → Prop} {Q : State → Prop} {cells slots b L q : Nat} {xs : Nat → Int32} {i : Int32} {a b2 : Nat → Nat} {o : OX6} {r : OX7} {g : Nat → Int64} (C : Cx p s m #[.ref b] c code 7 RL Z A) (hX : XT Y A s s.heap) (hN : XNo s) (hst : l.stackTraces = false) (hSc : va_X b L xs s s.heap) (hbl : b < s.heap.size) (hbA : ¬ A b) (hR1 : cells + 3 ≤ room_1.cells) (hR2 : slots + 18 ≤ room_1.slots) (h1 : vp_in (i + 1) L) (h2 : vp_in (i + 2) L) {res : (Nat ⊕ Int32) × OX6} {res2 : Int32 × OX7} (H1 : fX6_neighbours o (xs (ix (i + 1))) (bz (xs (ix (i + 2)))) = some res) (H2 : fX7_neighbours r (xs (ix (i + 1))) (bz (xs (ix (i + 2)))) = some res2) (Hk : ∀ k, res.1 = .inl k → k = 2) (H3 : q7_thrown (mh_neighbours r res2.2) = hcd [2] res.1) (H4 : ∀ v, res.1 = .inr v → res2.1 = v) (K : Gw p l e room_1 s m #[.ref b] below meth c 7 Z A Q (cells + 3) (slots + 18) (2645) [(0, .ref b), (1, .ref (a 0)), (2, .ref (b2 0)), (3, .ref q), (4, .int i)] [] (WS Z a b2 q (mg_neighbours o res.2) (mh_neighbours r res2.2) (outI g res.1))) : Gw p l e room_1 s m #[.ref b] below meth c 7 Z A Q (cells) (slots) (2121) [(0, .ref b), (1, .ref (a 0)), (2, .ref (b2 0)), (3, .ref q), (4, .int i)] [] (WS Z a b2 q o r g) := by
  refine g_aload_n C dL_law_2121 rfl 1 rfl ?_
  refine g_aload_n C dL_law_2122 rfl 0 rfl ?_
  refine g_iload C dL_law_2123 4 rfl ?_
  refine g_iconst C 1 dL_law_2125 (by decide) ?_
  refine g_iadd C dL_law_2126 ?_
  refine g_sld C hSc hbl hbA h1 dL_law_2127 ?_
  refine g_aload_n C dL_law_2128 rfl 0 rfl ?_
  refine g_iload C dL_law_2129 4 rfl ?_
  refine g_iconst C 2 dL_law_2131 (by decide) ?_
  refine g_iadd C dL_law_2132 ?_
  refine g_sld C hSc hbl hbA h2 dL_law_2133 ?_
  refine g_if_eq C 2141 dL_law_2134 (by decide) (fun cb => ?_) (fun cb => ?_)
  · have e99 : bz (xs (ix (i + 2))) = 0 := if_pos cb
    rw [e99] at H1 H2
    refine g_iconst C 0 dL_law_2141 (by decide) ?_
    refine g_aload_n C dL_law_2142 rfl 3 rfl ?_
    refine gx_callL C hX hN (kL_neighbours l hst Z Y a q o g (xs (ix (i + 1))) 0 res H1 Hk) mw_4_213 mw_1_0 mw_4_212 ⟨by decide +kernel, by decide +kernel⟩ (n := 4) (by decide +kernel) 282 mw_4_211 rfl [0, 1, 2, 3, 4, 5, 6, 7, 8, 9, 10, 11, 12, 13, 14, 15, 16, 17, 18, 19, 20, 21, 22, 23, 24, 25, 26, 27, 28, 29, 30, 31, 32, 33, 34, 35, 36, 37, 38, 39, 40, 41, 42, 43, 44, 45] [46, 47, 48, 49, 50, 51, 52, 53, 54, 55, 56, 57, 58, 59, 60] [15, 16, 17, 18, 19, 20, 21, 22, 23, 24, 25, 26, 27, 28, 29, 30, 31, 32, 33, 34, 35, 36, 37, 38, 39, 40, 41, 42, 43, 44, 45, 46, 47, 48, 49, 50, 51, 52, 53, 54, 55, 56, 57, 58, 59, 60, 0, 1, 2, 3, 4, 5, 6, 7, 8, 9, 10, 11, 12, 13, 14] (wr := wX7 Z b2 r) rfl rfl (by decide) (by decide) (by decide) (WS Z a b2 q (mg_neighbours o res.2) r (outI g res.1)) rfl (by decide) (Nat.le_of_ble_eq_true rfl) (Nat.le_of_ble_eq_true rfl) (Nat.le_of_ble_eq_true rfl) ⟨by omega, by omega⟩ rfl dL_law_2143 ?_
    refine g_istore C dL_law_2146 (by decide) [(5, .int (hcd [2] res.1)), (0, .ref b), (1, .ref (a 0)), (2, .ref (b2 0)), (3, .ref q), (4, .int i)] rfl ?_
    refine g_aload_n C dL_law_2148 rfl 3 rfl ?_
    refine g_aload_n C dL_law_2149 rfl 1 rfl ?_
    refine g_iload C dL_law_2150 5 rfl ?_
    refine g_iconst C 1 dL_law_2152 (by decide) ?_
    refine g_iadd C dL_law_2153 ?_
    refine g_sld C hSc hbl hbA h1 dL_law_2154 ?_
    refine g_aload_n C dL_law_2155 rfl 1 rfl ?_
    refine g_iload C dL_law_2156 5 rfl ?_
    refine g_iconst C 2 dL_law_2158 (by decide) ?_
    refine g_iadd C dL_law_2159 ?_
    refine g_sld C hSc hbl hbA h2 dL_law_2160 ?_
    refine g_if_eq C 2168 dL_law_2161 (by decide) (fun _ => ?_) (fun z => absurd cb z)
    refine g_iconst C 0 dL_law_2168 (by decide) ?_
    refine g_callVi C (kX7_neighbours l Z (b2 0) (b2 1) (b2 2) (b2 3) (b2 4) (b2 5) (b2 6) (b2 7) (b2 8) (b2 9) (b2 10) (b2 11) (b2 12) (b2 13) (b2 14) r (xs (ix (i + 1))) 0 res2 H2) 0 rfl (ci := 7) rfl rfl myX7_neighbours 284 mw_7_73 rfl [46, 48, 52, 53, 54, 55] [0, 1, 2, 3, 4, 5, 6, 7, 8, 9, 10, 11, 12, 13, 14, 15, 16, 17, 18, 19, 20, 21, 22, 23, 24, 25, 26, 27, 28, 29, 30, 31, 32, 33, 34, 35, 36, 37, 38, 39, 40, 41, 42, 43, 44, 45, 47, 49, 50, 51, 56, 57, 58, 59, 60] [0, 1, 2, 3, 4, 5, 6, 7, 8, 9, 10, 11, 12, 13, 14, 15, 16, 17, 18, 19, 20, 21, 22, 23, 24, 25, 26, 27, 28, 29, 30, 31, 32, 33, 34, 35, 36, 37, 38, 39, 40, 41, 42, 43, 44, 45, 55, 46, 56, 47, 48, 49, 57, 58, 59, 60, 50, 51, 52, 53, 54] (wr := ((wX6 Z a (mg_neighbours o res.2) ++ [(q, .inl (zJ Z, 1, .inr (.inl (outI g res.1))))]) ++ [((b2 1), .inl (zI Z, 300, .inl (q7_buffer r))), ((b2 3), .inl (zI Z, 12, .inl (q7_made r))), ((b2 4), .inl (zI Z, 96, .inl (q7_history r))), ((b2 5), .inl (zI Z, 12, .inl (q7_saved r))), ((b2 10), .inl (zI Z, 256, .inl (q7_counted r))), ((b2 11), .inl (zI Z, 10, .inl (q7_steps r))), ((b2 12), .inl (zI Z, 12, .inl (q7_onto r))), ((b2 13), .inl (zI Z, 8, .inl (q7_goes r))), ((b2 14), .inl (zI Z, 8, .inl (q7_firstImage r)))])) rfl rfl (by decide) (by decide) (by decide) (WS Z a b2 q (mg_neighbours o res.2) (mh_neighbours r res2.2) (outI g res.1)) rfl (by decide) (Nat.le_of_ble_eq_true rfl) (Nat.le_of_ble_eq_true rfl) (Nat.le_of_ble_eq_true rfl) ⟨by omega, by omega⟩ rfl dL_law_2169 ?_
    refine g_istore C dL_law_2172 (by decide) [(6, .int res2.1), (5, .int (hcd [2] res.1)), (0, .ref b), (1, .ref (a 0)), (2, .ref (b2 0)), (3, .ref q), (4, .int i)] rfl ?_
    refine g_aload_n C dL_law_2174 rfl 4 rfl ?_
    refine g_callVi C (kX7_thrown l Z (b2 0) (b2 1) (b2 2) (b2 3) (b2 4) (b2 5) (b2 6) (b2 7) (b2 8) (b2 9) (b2 10) (b2 11) (b2 12) (b2 13) (b2 14) (mh_neighbours r res2.2) (q7_thrown (mh_neighbours r res2.2)) rfl) 0 rfl (ci := 7) rfl rfl myX7_thrown 139 mw_5_170 rfl [46] [0, 1, 2, 3, 4, 5, 6, 7, 8, 9, 10, 11, 12, 13, 14, 15, 16, 17, 18, 19, 20, 21, 22, 23, 24, 25, 26, 27, 28, 29, 30, 31, 32, 33, 34, 35, 36, 37, 38, 39, 40, 41, 42, 43, 44, 45, 47, 48, 49, 50, 51, 52, 53, 54, 55, 56, 57, 58, 59, 60] [0, 1, 2, 3, 4, 5, 6, 7, 8, 9, 10, 11, 12, 13, 14, 15, 16, 17, 18, 19, 20, 21, 22, 23, 24, 25, 26, 27, 28, 29, 30, 31, 32, 33, 34, 35, 36, 37, 38, 39, 40, 41, 42, 43, 44, 45, 60, 46, 47, 48, 49, 50, 51, 52, 53, 54, 55, 56, 57, 58, 59] (wr := ((wX6 Z a (mg_neighbours o res.2) ++ [(q, .inl (zJ Z, 1, .inr (.inl (outI g res.1))))]) ++ [((b2 1), .inl (zI Z, 300, .inl (q7_buffer (mh_neighbours r res2.2)))), ((b2 2), .inl (zI Z, 12, .inl (q7_now (mh_neighbours r res2.2)))), ((b2 3), .inl (zI Z, 12, .inl (q7_made (mh_neighbours r res2.2)))), ((b2 4), .inl (zI Z, 96, .inl (q7_history (mh_neighbours r res2.2)))), ((b2 5), .inl (zI Z, 12, .inl (q7_saved (mh_neighbours r res2.2)))), ((b2 6), .inl (zI Z, 256, .inl (q7_closed (mh_neighbours r res2.2)))), ((b2 7), .inl (zI Z, 256, .inl (q7_faces (mh_neighbours r res2.2)))), ((b2 8), .inl (zI Z, 256, .inl (q7_rankOf (mh_neighbours r res2.2)))), ((b2 9), .inl (zI Z, 256, .inl (q7_placeOf (mh_neighbours r res2.2)))), ((b2 10), .inl (zI Z, 256, .inl (q7_counted (mh_neighbours r res2.2)))), ((b2 11), .inl (zI Z, 10, .inl (q7_steps (mh_neighbours r res2.2)))), ((b2 12), .inl (zI Z, 12, .inl (q7_onto (mh_neighbours r res2.2)))), ((b2 13), .inl (zI Z, 8, .inl (q7_goes (mh_neighbours r res2.2)))), ((b2 14), .inl (zI Z, 8, .inl (q7_firstImage (mh_neighbours r res2.2))))])) rfl rfl (by decide) (by decide) (by decide) (WS Z a b2 q (mg_neighbours o res.2) (mh_neighbours r res2.2) (outI g res.1)) rfl (by decide) (Nat.le_of_ble_eq_true rfl) (Nat.le_of_ble_eq_true rfl) (Nat.le_of_ble_eq_true rfl) ⟨by omega, by omega⟩ rfl dL_law_2175 ?_
    refine g_iload C dL_law_2178 1 rfl ?_
    refine g_icmp_eq C 2185 dL_law_2180 (by decide) (fun _ => ?_) (fun z => absurd H3 z)
    refine g_iload C dL_law_2185 1 rfl ?_
    refine g_if_ne C 2202 dL_law_2187 (by decide) (fun c2 => ?_) (fun c2 => ?_)
    · skip
      refine g_goto C 2645 dL_law_2202 (by decide) ?_
      refine g_lv [2, 3, 4, 5, 6] [(0, .ref b), (1, .ref (a 0)), (2, .ref (b2 0)), (3, .ref q), (4, .int i)] rfl ?_
      exact g_widen (cells + 3) (slots + 18) (by omega) (by omega) K
    · obtain ⟨v, hv⟩ := hcd_zero [2] (by decide) c2
      refine g_aload_n C dL_law_2190 rfl 5 rfl ?_
      refine g_iconst C 0 dL_law_2191 (by decide) ?_
      refine g_lald C 45 rfl (by decide) dL_law_2192 ?_
      refine g_iload C dL_law_2193 0 rfl ?_
      refine g_i2l C dL_law_2195 ?_
      refine g_lcmp C dL_law_2196 ?_
      refine g_if_eq C 2202 dL_law_2197 (by decide) (fun _ => ?_) (fun z => absurd (by rw [hv, H4 v hv, outI_at]; exact lcmp_self _) z)
      refine g_goto C 2645 dL_law_2202 (by decide) ?_
      refine g_lv [2, 3, 4, 5, 6] [(0, .ref b), (1, .ref (a 0)), (2, .ref (b2 0)), (3, .ref q), (4, .int i)] rfl ?_
      exact g_widen (cells + 3) (slots + 18) (by omega) (by omega) K
  · have e99 : bz (xs (ix (i + 2))) = 1 := if_neg cb
    rw [e99] at H1 H2
    refine g_iconst C 1 dL_law_2137 (by decide) ?_
    refine g_goto C 2142 dL_law_2138 (by decide) ?_
    refine g_aload_n C dL_law_2142 rfl 3 rfl ?_
    refine gx_callL C hX hN (kL_neighbours l hst Z Y a q o g (xs (ix (i + 1))) 1 res H1 Hk) mw_4_213 mw_1_0 mw_4_212 ⟨by decide +kernel, by decide +kernel⟩ (n := 4) (by decide +kernel) 282 mw_4_211 rfl [0, 1, 2, 3, 4, 5, 6, 7, 8, 9, 10, 11, 12, 13, 14, 15, 16, 17, 18, 19, 20, 21, 22, 23, 24, 25, 26, 27, 28, 29, 30, 31, 32, 33, 34, 35, 36, 37, 38, 39, 40, 41, 42, 43, 44, 45] [46, 47, 48, 49, 50, 51, 52, 53, 54, 55, 56, 57, 58, 59, 60] [15, 16, 17, 18, 19, 20, 21, 22, 23, 24, 25, 26, 27, 28, 29, 30, 31, 32, 33, 34, 35, 36, 37, 38, 39, 40, 41, 42, 43, 44, 45, 46, 47, 48, 49, 50, 51, 52, 53, 54, 55, 56, 57, 58, 59, 60, 0, 1, 2, 3, 4, 5, 6, 7, 8, 9, 10, 11, 12, 13, 14] (wr := wX7 Z b2 r) rfl rfl (by decide) (by decide) (by decide) (WS Z a b2 q (mg_neighbours o res.2) r (outI g res.1)) rfl (by decide) (Nat.le_of_ble_eq_true rfl) (Nat.le_of_ble_eq_true rfl) (Nat.le_of_ble_eq_true rfl) ⟨by omega, by omega⟩ rfl dL_law_2143 ?_
    refine g_istore C dL_law_2146 (by decide) [(5, .int (hcd [2] res.1)), (0, .ref b), (1, .ref (a 0)), (2, .ref (b2 0)), (3, .ref q), (4, .int i)] rfl ?_
    refine g_aload_n C dL_law_2148 rfl 3 rfl ?_
    refine g_aload_n C dL_law_2149 rfl 1 rfl ?_
    refine g_iload C dL_law_2150 5 rfl ?_
    refine g_iconst C 1 dL_law_2152 (by decide) ?_
    refine g_iadd C dL_law_2153 ?_
    refine g_sld C hSc hbl hbA h1 dL_law_2154 ?_
    refine g_aload_n C dL_law_2155 rfl 1 rfl ?_
    refine g_iload C dL_law_2156 5 rfl ?_
    refine g_iconst C 2 dL_law_2158 (by decide) ?_
    refine g_iadd C dL_law_2159 ?_
    refine g_sld C hSc hbl hbA h2 dL_law_2160 ?_
    refine g_if_eq C 2168 dL_law_2161 (by decide) (fun z => absurd z cb) (fun _ => ?_)
    refine g_iconst C 1 dL_law_2164 (by decide) ?_
    refine g_goto C 2169 dL_law_2165 (by decide) ?_
    refine g_callVi C (kX7_neighbours l Z (b2 0) (b2 1) (b2 2) (b2 3) (b2 4) (b2 5) (b2 6) (b2 7) (b2 8) (b2 9) (b2 10) (b2 11) (b2 12) (b2 13) (b2 14) r (xs (ix (i + 1))) 1 res2 H2) 0 rfl (ci := 7) rfl rfl myX7_neighbours 284 mw_7_73 rfl [46, 48, 52, 53, 54, 55] [0, 1, 2, 3, 4, 5, 6, 7, 8, 9, 10, 11, 12, 13, 14, 15, 16, 17, 18, 19, 20, 21, 22, 23, 24, 25, 26, 27, 28, 29, 30, 31, 32, 33, 34, 35, 36, 37, 38, 39, 40, 41, 42, 43, 44, 45, 47, 49, 50, 51, 56, 57, 58, 59, 60] [0, 1, 2, 3, 4, 5, 6, 7, 8, 9, 10, 11, 12, 13, 14, 15, 16, 17, 18, 19, 20, 21, 22, 23, 24, 25, 26, 27, 28, 29, 30, 31, 32, 33, 34, 35, 36, 37, 38, 39, 40, 41, 42, 43, 44, 45, 55, 46, 56, 47, 48, 49, 57, 58, 59, 60, 50, 51, 52, 53, 54] (wr := ((wX6 Z a (mg_neighbours o res.2) ++ [(q, .inl (zJ Z, 1, .inr (.inl (outI g res.1))))]) ++ [((b2 1), .inl (zI Z, 300, .inl (q7_buffer r))), ((b2 3), .inl (zI Z, 12, .inl (q7_made r))), ((b2 4), .inl (zI Z, 96, .inl (q7_history r))), ((b2 5), .inl (zI Z, 12, .inl (q7_saved r))), ((b2 10), .inl (zI Z, 256, .inl (q7_counted r))), ((b2 11), .inl (zI Z, 10, .inl (q7_steps r))), ((b2 12), .inl (zI Z, 12, .inl (q7_onto r))), ((b2 13), .inl (zI Z, 8, .inl (q7_goes r))), ((b2 14), .inl (zI Z, 8, .inl (q7_firstImage r)))])) rfl rfl (by decide) (by decide) (by decide) (WS Z a b2 q (mg_neighbours o res.2) (mh_neighbours r res2.2) (outI g res.1)) rfl (by decide) (Nat.le_of_ble_eq_true rfl) (Nat.le_of_ble_eq_true rfl) (Nat.le_of_ble_eq_true rfl) ⟨by omega, by omega⟩ rfl dL_law_2169 ?_
    refine g_istore C dL_law_2172 (by decide) [(6, .int res2.1), (5, .int (hcd [2] res.1)), (0, .ref b), (1, .ref (a 0)), (2, .ref (b2 0)), (3, .ref q), (4, .int i)] rfl ?_
    refine g_aload_n C dL_law_2174 rfl 4 rfl ?_
    refine g_callVi C (kX7_thrown l Z (b2 0) (b2 1) (b2 2) (b2 3) (b2 4) (b2 5) (b2 6) (b2 7) (b2 8) (b2 9) (b2 10) (b2 11) (b2 12) (b2 13) (b2 14) (mh_neighbours r res2.2) (q7_thrown (mh_neighbours r res2.2)) rfl) 0 rfl (ci := 7) rfl rfl myX7_thrown 139 mw_5_170 rfl [46] [0, 1, 2, 3, 4, 5, 6, 7, 8, 9, 10, 11, 12, 13, 14, 15, 16, 17, 18, 19, 20, 21, 22, 23, 24, 25, 26, 27, 28, 29, 30, 31, 32, 33, 34, 35, 36, 37, 38, 39, 40, 41, 42, 43, 44, 45, 47, 48, 49, 50, 51, 52, 53, 54, 55, 56, 57, 58, 59, 60] [0, 1, 2, 3, 4, 5, 6, 7, 8, 9, 10, 11, 12, 13, 14, 15, 16, 17, 18, 19, 20, 21, 22, 23, 24, 25, 26, 27, 28, 29, 30, 31, 32, 33, 34, 35, 36, 37, 38, 39, 40, 41, 42, 43, 44, 45, 60, 46, 47, 48, 49, 50, 51, 52, 53, 54, 55, 56, 57, 58, 59] (wr := ((wX6 Z a (mg_neighbours o res.2) ++ [(q, .inl (zJ Z, 1, .inr (.inl (outI g res.1))))]) ++ [((b2 1), .inl (zI Z, 300, .inl (q7_buffer (mh_neighbours r res2.2)))), ((b2 2), .inl (zI Z, 12, .inl (q7_now (mh_neighbours r res2.2)))), ((b2 3), .inl (zI Z, 12, .inl (q7_made (mh_neighbours r res2.2)))), ((b2 4), .inl (zI Z, 96, .inl (q7_history (mh_neighbours r res2.2)))), ((b2 5), .inl (zI Z, 12, .inl (q7_saved (mh_neighbours r res2.2)))), ((b2 6), .inl (zI Z, 256, .inl (q7_closed (mh_neighbours r res2.2)))), ((b2 7), .inl (zI Z, 256, .inl (q7_faces (mh_neighbours r res2.2)))), ((b2 8), .inl (zI Z, 256, .inl (q7_rankOf (mh_neighbours r res2.2)))), ((b2 9), .inl (zI Z, 256, .inl (q7_placeOf (mh_neighbours r res2.2)))), ((b2 10), .inl (zI Z, 256, .inl (q7_counted (mh_neighbours r res2.2)))), ((b2 11), .inl (zI Z, 10, .inl (q7_steps (mh_neighbours r res2.2)))), ((b2 12), .inl (zI Z, 12, .inl (q7_onto (mh_neighbours r res2.2)))), ((b2 13), .inl (zI Z, 8, .inl (q7_goes (mh_neighbours r res2.2)))), ((b2 14), .inl (zI Z, 8, .inl (q7_firstImage (mh_neighbours r res2.2))))])) rfl rfl (by decide) (by decide) (by decide) (WS Z a b2 q (mg_neighbours o res.2) (mh_neighbours r res2.2) (outI g res.1)) rfl (by decide) (Nat.le_of_ble_eq_true rfl) (Nat.le_of_ble_eq_true rfl) (Nat.le_of_ble_eq_true rfl) ⟨by omega, by omega⟩ rfl dL_law_2175 ?_
    refine g_iload C dL_law_2178 1 rfl ?_
    refine g_icmp_eq C 2185 dL_law_2180 (by decide) (fun _ => ?_) (fun z => absurd H3 z)
    refine g_iload C dL_law_2185 1 rfl ?_
    refine g_if_ne C 2202 dL_law_2187 (by decide) (fun c2 => ?_) (fun c2 => ?_)
    · skip
      refine g_goto C 2645 dL_law_2202 (by decide) ?_
      refine g_lv [2, 3, 4, 5, 6] [(0, .ref b), (1, .ref (a 0)), (2, .ref (b2 0)), (3, .ref q), (4, .int i)] rfl ?_
      exact g_widen (cells + 3) (slots + 18) (by omega) (by omega) K
    · obtain ⟨v, hv⟩ := hcd_zero [2] (by decide) c2
      refine g_aload_n C dL_law_2190 rfl 5 rfl ?_
      refine g_iconst C 0 dL_law_2191 (by decide) ?_
      refine g_lald C 45 rfl (by decide) dL_law_2192 ?_
      refine g_iload C dL_law_2193 0 rfl ?_
      refine g_i2l C dL_law_2195 ?_
      refine g_lcmp C dL_law_2196 ?_
      refine g_if_eq C 2202 dL_law_2197 (by decide) (fun _ => ?_) (fun z => absurd (by rw [hv, H4 v hv, outI_at]; exact lcmp_self _) z)
      refine g_goto C 2645 dL_law_2202 (by decide) ?_
      refine g_lv [2, 3, 4, 5, 6] [(0, .ref b), (1, .ref (a 0)), (2, .ref (b2 0)), (3, .ref q), (4, .int i)] rfl ?_
      exact g_widen (cells + 3) (slots + 18) (by omega) (by omega) K
set_option maxRecDepth 100000 in
set_option maxHeartbeats 4000000 in
theorem lc_42 {p : Program} {l : Launch} {e : Env} {s : State} {m : MethodId} {below : List Frame} {meth : Method} {c : Code} {Z : GZ} {Y : YZ} {A : Nat → Prop} {Q : State → Prop} {cells slots b L q : Nat} {xs : Nat → Int32} {i : Int32} {a b2 : Nat → Nat} {o : OX6} {r : OX7} {g : Nat → Int64} (C : Cx p s m #[.ref b] c code 7 RL Z A) (hX : XT Y A s s.heap) (hN : XNo s) (hst : l.stackTraces = false) (hSc : va_X b L xs s s.heap) (hbl : b < s.heap.size) (hbA : ¬ A b) (hR1 : cells + 3 ≤ room_1.cells) (hR2 : slots + 18 ≤ room_1.slots) (h1 : vp_in (i + 1) L) (h2 : vp_in (i + 2) L) (h3 : vp_in (i + 3) L) {res : (Nat ⊕ Int32) × OX6} {res2 : Int32 × OX7} (H1 : fX6_distance o (xs (ix (i + 1))) (xs (ix (i + 2))) (bz (xs (ix (i + 3)))) = some res) (H2 : fX7_distance r (xs (ix (i + 1))) (xs (ix (i + 2))) (bz (xs (ix (i + 3)))) = some res2) (Hk : ∀ k, res.1 = .inl k → k = 2) (H3 : q7_thrown (mh_distance r res2.2) = hcd [2] res.1) (H4 : ∀ v, res.1 = .inr v → res2.1 = v) (K : Gw p l e room_1 s m #[.ref b] below meth c 7 Z A Q (cells + 3) (slots + 18) (2645) [(0, .ref b), (1, .ref (a 0)), (2, .ref (b2 0)), (3, .ref q), (4, .int i)] [] (WS Z a b2 q (mg_distance o res.2) (mh_distance r res2.2) (outI g res.1))) : Gw p l e room_1 s m #[.ref b] below meth c 7 Z A Q (cells) (slots) (2205) [(0, .ref b), (1, .ref (a 0)), (2, .ref (b2 0)), (3, .ref q), (4, .int i)] [] (WS Z a b2 q o r g) := by
  refine g_aload_n C dL_law_2205 rfl 1 rfl ?_
  refine g_aload_n C dL_law_2206 rfl 0 rfl ?_
  refine g_iload C dL_law_2207 4 rfl ?_
  refine g_iconst C 1 dL_law_2209 (by decide) ?_
  refine g_iadd C dL_law_2210 ?_
  refine g_sld C hSc hbl hbA h1 dL_law_2211 ?_
  refine g_aload_n C dL_law_2212 rfl 0 rfl ?_
  refine g_iload C dL_law_2213 4 rfl ?_
  refine g_iconst C 2 dL_law_2215 (by decide) ?_
  refine g_iadd C dL_law_2216 ?_
  refine g_sld C hSc hbl hbA h2 dL_law_2217 ?_
  refine g_aload_n C dL_law_2218 rfl 0 rfl ?_
  refine g_iload C dL_law_2219 4 rfl ?_
  refine g_iconst C 3 dL_law_2221 (by decide) ?_
  refine g_iadd C dL_law_2222 ?_
  refine g_sld C hSc hbl hbA h3 dL_law_2223 ?_
  refine g_if_eq C 2231 dL_law_2224 (by decide) (fun cb => ?_) (fun cb => ?_)
  · have e99 : bz (xs (ix (i + 3))) = 0 := if_pos cb
    rw [e99] at H1 H2
    refine g_iconst C 0 dL_law_2231 (by decide) ?_
    refine g_aload_n C dL_law_2232 rfl 3 rfl ?_
    refine gx_callL C hX hN (kL_distance l hst Z Y a q o g (xs (ix (i + 1))) (xs (ix (i + 2))) 0 res H1 Hk) mw_4_233 mw_1_0 mw_4_232 ⟨by decide +kernel, by decide +kernel⟩ (n := 5) (by decide +kernel) 285 mw_4_231 rfl [0, 1, 2, 3, 4, 5, 6, 7, 8, 9, 10, 11, 12, 13, 14, 15, 16, 17, 18, 19, 20, 21, 22, 23, 24, 25, 26, 27, 28, 29, 30, 31, 32, 33, 34, 35, 36, 37, 38, 39, 40, 41, 42, 43, 44, 45] [46, 47, 48, 49, 50, 51, 52, 53, 54, 55, 56, 57, 58, 59, 60] [15, 16, 17, 18, 19, 20, 21, 22, 23, 24, 25, 26, 27, 28, 29, 30, 31, 32, 33, 34, 35, 36, 37, 38, 39, 40, 41, 42, 43, 44, 45, 46, 47, 48, 49, 50, 51, 52, 53, 54, 55, 56, 57, 58, 59, 60, 0, 1, 2, 3, 4, 5, 6, 7, 8, 9, 10, 11, 12, 13, 14] (wr := wX7 Z b2 r) rfl rfl (by decide) (by decide) (by decide) (WS Z a b2 q (mg_distance o res.2) r (outI g res.1)) rfl (by decide) (Nat.le_of_ble_eq_true rfl) (Nat.le_of_ble_eq_true rfl) (Nat.le_of_ble_eq_true rfl) ⟨by omega, by omega⟩ rfl dL_law_2233 ?_
    refine g_istore C dL_law_2236 (by decide) [(5, .int (hcd [2] res.1)), (0, .ref b), (1, .ref (a 0)), (2, .ref (b2 0)), (3, .ref q), (4, .int i)] rfl ?_
    refine g_aload_n C dL_law_2238 rfl 3 rfl ?_
    refine g_aload_n C dL_law_2239 rfl 1 rfl ?_
    refine g_iload C dL_law_2240 5 rfl ?_
    refine g_iconst C 1 dL_law_2242 (by decide) ?_
    refine g_iadd C dL_law_2243 ?_
    refine g_sld C hSc hbl hbA h1 dL_law_2244 ?_
    refine g_aload_n C dL_law_2245 rfl 1 rfl ?_
    refine g_iload C dL_law_2246 5 rfl ?_
    refine g_iconst C 2 dL_law_2248 (by decide) ?_
    refine g_iadd C dL_law_2249 ?_
    refine g_sld C hSc hbl hbA h2 dL_law_2250 ?_
    refine g_aload_n C dL_law_2251 rfl 1 rfl ?_
    refine g_iload C dL_law_2252 5 rfl ?_
    refine g_iconst C 3 dL_law_2254 (by decide) ?_
    refine g_iadd C dL_law_2255 ?_
    refine g_sld C hSc hbl hbA h3 dL_law_2256 ?_
    refine g_if_eq C 2264 dL_law_2257 (by decide) (fun _ => ?_) (fun z => absurd cb z)
    refine g_iconst C 0 dL_law_2264 (by decide) ?_
    refine g_callVi C (kX7_distance l Z (b2 0) (b2 1) (b2 2) (b2 3) (b2 4) (b2 5) (b2 6) (b2 7) (b2 8) (b2 9) (b2 10) (b2 11) (b2 12) (b2 13) (b2 14) r (xs (ix (i + 1))) (xs (ix (i + 2))) 0 res2 H2) 0 rfl (ci := 7) rfl rfl myX7_distance 287 mw_7_89 rfl [46, 48, 52, 53, 54, 55, 57] [0, 1, 2, 3, 4, 5, 6, 7, 8, 9, 10, 11, 12, 13, 14, 15, 16, 17, 18, 19, 20, 21, 22, 23, 24, 25, 26, 27, 28, 29, 30, 31, 32, 33, 34, 35, 36, 37, 38, 39, 40, 41, 42, 43, 44, 45, 47, 49, 50, 51, 56, 58, 59, 60] [0, 1, 2, 3, 4, 5, 6, 7, 8, 9, 10, 11, 12, 13, 14, 15, 16, 17, 18, 19, 20, 21, 22, 23, 24, 25, 26, 27, 28, 29, 30, 31, 32, 33, 34, 35, 36, 37, 38, 39, 40, 41, 42, 43, 44, 45, 54, 46, 55, 47, 48, 49, 56, 57, 58, 59, 50, 60, 51, 52, 53] (wr := ((wX6 Z a (mg_distance o res.2) ++ [(q, .inl (zJ Z, 1, .inr (.inl (outI g res.1))))]) ++ [((b2 1), .inl (zI Z, 300, .inl (q7_buffer r))), ((b2 3), .inl (zI Z, 12, .inl (q7_made r))), ((b2 4), .inl (zI Z, 96, .inl (q7_history r))), ((b2 5), .inl (zI Z, 12, .inl (q7_saved r))), ((b2 10), .inl (zI Z, 256, .inl (q7_counted r))), ((b2 12), .inl (zI Z, 12, .inl (q7_onto r))), ((b2 13), .inl (zI Z, 8, .inl (q7_goes r))), ((b2 14), .inl (zI Z, 8, .inl (q7_firstImage r)))])) rfl rfl (by decide) (by decide) (by decide) (WS Z a b2 q (mg_distance o res.2) (mh_distance r res2.2) (outI g res.1)) rfl (by decide) (Nat.le_of_ble_eq_true rfl) (Nat.le_of_ble_eq_true rfl) (Nat.le_of_ble_eq_true rfl) ⟨by omega, by omega⟩ rfl dL_law_2265 ?_
    refine g_istore C dL_law_2268 (by decide) [(6, .int res2.1), (5, .int (hcd [2] res.1)), (0, .ref b), (1, .ref (a 0)), (2, .ref (b2 0)), (3, .ref q), (4, .int i)] rfl ?_
    refine g_aload_n C dL_law_2270 rfl 4 rfl ?_
    refine g_callVi C (kX7_thrown l Z (b2 0) (b2 1) (b2 2) (b2 3) (b2 4) (b2 5) (b2 6) (b2 7) (b2 8) (b2 9) (b2 10) (b2 11) (b2 12) (b2 13) (b2 14) (mh_distance r res2.2) (q7_thrown (mh_distance r res2.2)) rfl) 0 rfl (ci := 7) rfl rfl myX7_thrown 139 mw_5_170 rfl [46] [0, 1, 2, 3, 4, 5, 6, 7, 8, 9, 10, 11, 12, 13, 14, 15, 16, 17, 18, 19, 20, 21, 22, 23, 24, 25, 26, 27, 28, 29, 30, 31, 32, 33, 34, 35, 36, 37, 38, 39, 40, 41, 42, 43, 44, 45, 47, 48, 49, 50, 51, 52, 53, 54, 55, 56, 57, 58, 59, 60] [0, 1, 2, 3, 4, 5, 6, 7, 8, 9, 10, 11, 12, 13, 14, 15, 16, 17, 18, 19, 20, 21, 22, 23, 24, 25, 26, 27, 28, 29, 30, 31, 32, 33, 34, 35, 36, 37, 38, 39, 40, 41, 42, 43, 44, 45, 60, 46, 47, 48, 49, 50, 51, 52, 53, 54, 55, 56, 57, 58, 59] (wr := ((wX6 Z a (mg_distance o res.2) ++ [(q, .inl (zJ Z, 1, .inr (.inl (outI g res.1))))]) ++ [((b2 1), .inl (zI Z, 300, .inl (q7_buffer (mh_distance r res2.2)))), ((b2 2), .inl (zI Z, 12, .inl (q7_now (mh_distance r res2.2)))), ((b2 3), .inl (zI Z, 12, .inl (q7_made (mh_distance r res2.2)))), ((b2 4), .inl (zI Z, 96, .inl (q7_history (mh_distance r res2.2)))), ((b2 5), .inl (zI Z, 12, .inl (q7_saved (mh_distance r res2.2)))), ((b2 6), .inl (zI Z, 256, .inl (q7_closed (mh_distance r res2.2)))), ((b2 7), .inl (zI Z, 256, .inl (q7_faces (mh_distance r res2.2)))), ((b2 8), .inl (zI Z, 256, .inl (q7_rankOf (mh_distance r res2.2)))), ((b2 9), .inl (zI Z, 256, .inl (q7_placeOf (mh_distance r res2.2)))), ((b2 10), .inl (zI Z, 256, .inl (q7_counted (mh_distance r res2.2)))), ((b2 11), .inl (zI Z, 10, .inl (q7_steps (mh_distance r res2.2)))), ((b2 12), .inl (zI Z, 12, .inl (q7_onto (mh_distance r res2.2)))), ((b2 13), .inl (zI Z, 8, .inl (q7_goes (mh_distance r res2.2)))), ((b2 14), .inl (zI Z, 8, .inl (q7_firstImage (mh_distance r res2.2))))])) rfl rfl (by decide) (by decide) (by decide) (WS Z a b2 q (mg_distance o res.2) (mh_distance r res2.2) (outI g res.1)) rfl (by decide) (Nat.le_of_ble_eq_true rfl) (Nat.le_of_ble_eq_true rfl) (Nat.le_of_ble_eq_true rfl) ⟨by omega, by omega⟩ rfl dL_law_2271 ?_
    refine g_iload C dL_law_2274 1 rfl ?_
    refine g_icmp_eq C 2281 dL_law_2276 (by decide) (fun _ => ?_) (fun z => absurd H3 z)
    refine g_iload C dL_law_2281 1 rfl ?_
    refine g_if_ne C 2298 dL_law_2283 (by decide) (fun c2 => ?_) (fun c2 => ?_)
    · skip
      refine g_goto C 2645 dL_law_2298 (by decide) ?_
      refine g_lv [2, 3, 4, 5, 6] [(0, .ref b), (1, .ref (a 0)), (2, .ref (b2 0)), (3, .ref q), (4, .int i)] rfl ?_
      exact g_widen (cells + 3) (slots + 18) (by omega) (by omega) K
    · obtain ⟨v, hv⟩ := hcd_zero [2] (by decide) c2
      refine g_aload_n C dL_law_2286 rfl 5 rfl ?_
      refine g_iconst C 0 dL_law_2287 (by decide) ?_
      refine g_lald C 45 rfl (by decide) dL_law_2288 ?_
      refine g_iload C dL_law_2289 0 rfl ?_
      refine g_i2l C dL_law_2291 ?_
      refine g_lcmp C dL_law_2292 ?_
      refine g_if_eq C 2298 dL_law_2293 (by decide) (fun _ => ?_) (fun z => absurd (by rw [hv, H4 v hv, outI_at]; exact lcmp_self _) z)
      refine g_goto C 2645 dL_law_2298 (by decide) ?_
      refine g_lv [2, 3, 4, 5, 6] [(0, .ref b), (1, .ref (a 0)), (2, .ref (b2 0)), (3, .ref q), (4, .int i)] rfl ?_
      exact g_widen (cells + 3) (slots + 18) (by omega) (by omega) K
  · have e99 : bz (xs (ix (i + 3))) = 1 := if_neg cb
    rw [e99] at H1 H2
    refine g_iconst C 1 dL_law_2227 (by decide) ?_
    refine g_goto C 2232 dL_law_2228 (by decide) ?_
    refine g_aload_n C dL_law_2232 rfl 3 rfl ?_
    refine gx_callL C hX hN (kL_distance l hst Z Y a q o g (xs (ix (i + 1))) (xs (ix (i + 2))) 1 res H1 Hk) mw_4_233 mw_1_0 mw_4_232 ⟨by decide +kernel, by decide +kernel⟩ (n := 5) (by decide +kernel) 285 mw_4_231 rfl [0, 1, 2, 3, 4, 5, 6, 7, 8, 9, 10, 11, 12, 13, 14, 15, 16, 17, 18, 19, 20, 21, 22, 23, 24, 25, 26, 27, 28, 29, 30, 31, 32, 33, 34, 35, 36, 37, 38, 39, 40, 41, 42, 43, 44, 45] [46, 47, 48, 49, 50, 51, 52, 53, 54, 55, 56, 57, 58, 59, 60] [15, 16, 17, 18, 19, 20, 21, 22, 23, 24, 25, 26, 27, 28, 29, 30, 31, 32, 33, 34, 35, 36, 37, 38, 39, 40, 41, 42, 43, 44, 45, 46, 47, 48, 49, 50, 51, 52, 53, 54, 55, 56, 57, 58, 59, 60, 0, 1, 2, 3, 4, 5, 6, 7, 8, 9, 10, 11, 12, 13, 14] (wr := wX7 Z b2 r) rfl rfl (by decide) (by decide) (by decide) (WS Z a b2 q (mg_distance o res.2) r (outI g res.1)) rfl (by decide) (Nat.le_of_ble_eq_true rfl) (Nat.le_of_ble_eq_true rfl) (Nat.le_of_ble_eq_true rfl) ⟨by omega, by omega⟩ rfl dL_law_2233 ?_
    refine g_istore C dL_law_2236 (by decide) [(5, .int (hcd [2] res.1)), (0, .ref b), (1, .ref (a 0)), (2, .ref (b2 0)), (3, .ref q), (4, .int i)] rfl ?_
    refine g_aload_n C dL_law_2238 rfl 3 rfl ?_
    refine g_aload_n C dL_law_2239 rfl 1 rfl ?_
    refine g_iload C dL_law_2240 5 rfl ?_
    refine g_iconst C 1 dL_law_2242 (by decide) ?_
    refine g_iadd C dL_law_2243 ?_
    refine g_sld C hSc hbl hbA h1 dL_law_2244 ?_
    refine g_aload_n C dL_law_2245 rfl 1 rfl ?_
    refine g_iload C dL_law_2246 5 rfl ?_
    refine g_iconst C 2 dL_law_2248 (by decide) ?_
    refine g_iadd C dL_law_2249 ?_
    refine g_sld C hSc hbl hbA h2 dL_law_2250 ?_
    refine g_aload_n C dL_law_2251 rfl 1 rfl ?_
    refine g_iload C dL_law_2252 5 rfl ?_
    refine g_iconst C 3 dL_law_2254 (by decide) ?_
    refine g_iadd C dL_law_2255 ?_
    refine g_sld C hSc hbl hbA h3 dL_law_2256 ?_
    refine g_if_eq C 2264 dL_law_2257 (by decide) (fun z => absurd z cb) (fun _ => ?_)
    refine g_iconst C 1 dL_law_2260 (by decide) ?_
    refine g_goto C 2265 dL_law_2261 (by decide) ?_
    refine g_callVi C (kX7_distance l Z (b2 0) (b2 1) (b2 2) (b2 3) (b2 4) (b2 5) (b2 6) (b2 7) (b2 8) (b2 9) (b2 10) (b2 11) (b2 12) (b2 13) (b2 14) r (xs (ix (i + 1))) (xs (ix (i + 2))) 1 res2 H2) 0 rfl (ci := 7) rfl rfl myX7_distance 287 mw_7_89 rfl [46, 48, 52, 53, 54, 55, 57] [0, 1, 2, 3, 4, 5, 6, 7, 8, 9, 10, 11, 12, 13, 14, 15, 16, 17, 18, 19, 20, 21, 22, 23, 24, 25, 26, 27, 28, 29, 30, 31, 32, 33, 34, 35, 36, 37, 38, 39, 40, 41, 42, 43, 44, 45, 47, 49, 50, 51, 56, 58, 59, 60] [0, 1, 2, 3, 4, 5, 6, 7, 8, 9, 10, 11, 12, 13, 14, 15, 16, 17, 18, 19, 20, 21, 22, 23, 24, 25, 26, 27, 28, 29, 30, 31, 32, 33, 34, 35, 36, 37, 38, 39, 40, 41, 42, 43, 44, 45, 54, 46, 55, 47, 48, 49, 56, 57, 58, 59, 50, 60, 51, 52, 53] (wr := ((wX6 Z a (mg_distance o res.2) ++ [(q, .inl (zJ Z, 1, .inr (.inl (outI g res.1))))]) ++ [((b2 1), .inl (zI Z, 300, .inl (q7_buffer r))), ((b2 3), .inl (zI Z, 12, .inl (q7_made r))), ((b2 4), .inl (zI Z, 96, .inl (q7_history r))), ((b2 5), .inl (zI Z, 12, .inl (q7_saved r))), ((b2 10), .inl (zI Z, 256, .inl (q7_counted r))), ((b2 12), .inl (zI Z, 12, .inl (q7_onto r))), ((b2 13), .inl (zI Z, 8, .inl (q7_goes r))), ((b2 14), .inl (zI Z, 8, .inl (q7_firstImage r)))])) rfl rfl (by decide) (by decide) (by decide) (WS Z a b2 q (mg_distance o res.2) (mh_distance r res2.2) (outI g res.1)) rfl (by decide) (Nat.le_of_ble_eq_true rfl) (Nat.le_of_ble_eq_true rfl) (Nat.le_of_ble_eq_true rfl) ⟨by omega, by omega⟩ rfl dL_law_2265 ?_
    refine g_istore C dL_law_2268 (by decide) [(6, .int res2.1), (5, .int (hcd [2] res.1)), (0, .ref b), (1, .ref (a 0)), (2, .ref (b2 0)), (3, .ref q), (4, .int i)] rfl ?_
    refine g_aload_n C dL_law_2270 rfl 4 rfl ?_
    refine g_callVi C (kX7_thrown l Z (b2 0) (b2 1) (b2 2) (b2 3) (b2 4) (b2 5) (b2 6) (b2 7) (b2 8) (b2 9) (b2 10) (b2 11) (b2 12) (b2 13) (b2 14) (mh_distance r res2.2) (q7_thrown (mh_distance r res2.2)) rfl) 0 rfl (ci := 7) rfl rfl myX7_thrown 139 mw_5_170 rfl [46] [0, 1, 2, 3, 4, 5, 6, 7, 8, 9, 10, 11, 12, 13, 14, 15, 16, 17, 18, 19, 20, 21, 22, 23, 24, 25, 26, 27, 28, 29, 30, 31, 32, 33, 34, 35, 36, 37, 38, 39, 40, 41, 42, 43, 44, 45, 47, 48, 49, 50, 51, 52, 53, 54, 55, 56, 57, 58, 59, 60] [0, 1, 2, 3, 4, 5, 6, 7, 8, 9, 10, 11, 12, 13, 14, 15, 16, 17, 18, 19, 20, 21, 22, 23, 24, 25, 26, 27, 28, 29, 30, 31, 32, 33, 34, 35, 36, 37, 38, 39, 40, 41, 42, 43, 44, 45, 60, 46, 47, 48, 49, 50, 51, 52, 53, 54, 55, 56, 57, 58, 59] (wr := ((wX6 Z a (mg_distance o res.2) ++ [(q, .inl (zJ Z, 1, .inr (.inl (outI g res.1))))]) ++ [((b2 1), .inl (zI Z, 300, .inl (q7_buffer (mh_distance r res2.2)))), ((b2 2), .inl (zI Z, 12, .inl (q7_now (mh_distance r res2.2)))), ((b2 3), .inl (zI Z, 12, .inl (q7_made (mh_distance r res2.2)))), ((b2 4), .inl (zI Z, 96, .inl (q7_history (mh_distance r res2.2)))), ((b2 5), .inl (zI Z, 12, .inl (q7_saved (mh_distance r res2.2)))), ((b2 6), .inl (zI Z, 256, .inl (q7_closed (mh_distance r res2.2)))), ((b2 7), .inl (zI Z, 256, .inl (q7_faces (mh_distance r res2.2)))), ((b2 8), .inl (zI Z, 256, .inl (q7_rankOf (mh_distance r res2.2)))), ((b2 9), .inl (zI Z, 256, .inl (q7_placeOf (mh_distance r res2.2)))), ((b2 10), .inl (zI Z, 256, .inl (q7_counted (mh_distance r res2.2)))), ((b2 11), .inl (zI Z, 10, .inl (q7_steps (mh_distance r res2.2)))), ((b2 12), .inl (zI Z, 12, .inl (q7_onto (mh_distance r res2.2)))), ((b2 13), .inl (zI Z, 8, .inl (q7_goes (mh_distance r res2.2)))), ((b2 14), .inl (zI Z, 8, .inl (q7_firstImage (mh_distance r res2.2))))])) rfl rfl (by decide) (by decide) (by decide) (WS Z a b2 q (mg_distance o res.2) (mh_distance r res2.2) (outI g res.1)) rfl (by decide) (Nat.le_of_ble_eq_true rfl) (Nat.le_of_ble_eq_true rfl) (Nat.le_of_ble_eq_true rfl) ⟨by omega, by omega⟩ rfl dL_law_2271 ?_
    refine g_iload C dL_law_2274 1 rfl ?_
    refine g_icmp_eq C 2281 dL_law_2276 (by decide) (fun _ => ?_) (fun z => absurd H3 z)
    refine g_iload C dL_law_2281 1 rfl ?_
    refine g_if_ne C 2298 dL_law_2283 (by decide) (fun c2 => ?_) (fun c2 => ?_)
    · skip
      refine g_goto C 2645 dL_law_2298 (by decide) ?_
      refine g_lv [2, 3, 4, 5, 6] [(0, .ref b), (1, .ref (a 0)), (2, .ref (b2 0)), (3, .ref q), (4, .int i)] rfl ?_
      exact g_widen (cells + 3) (slots + 18) (by omega) (by omega) K
    · obtain ⟨v, hv⟩ := hcd_zero [2] (by decide) c2
      refine g_aload_n C dL_law_2286 rfl 5 rfl ?_
      refine g_iconst C 0 dL_law_2287 (by decide) ?_
      refine g_lald C 45 rfl (by decide) dL_law_2288 ?_
      refine g_iload C dL_law_2289 0 rfl ?_
      refine g_i2l C dL_law_2291 ?_
      refine g_lcmp C dL_law_2292 ?_
      refine g_if_eq C 2298 dL_law_2293 (by decide) (fun _ => ?_) (fun z => absurd (by rw [hv, H4 v hv, outI_at]; exact lcmp_self _) z)
      refine g_goto C 2645 dL_law_2298 (by decide) ?_
      refine g_lv [2, 3, 4, 5, 6] [(0, .ref b), (1, .ref (a 0)), (2, .ref (b2 0)), (3, .ref q), (4, .int i)] rfl ?_
      exact g_widen (cells + 3) (slots + 18) (by omega) (by omega) K
set_option maxRecDepth 100000 in
set_option maxHeartbeats 4000000 in
theorem lc_43 {p : Program} {l : Launch} {e : Env} {s : State} {m : MethodId} {below : List Frame} {meth : Method} {c : Code} {Z : GZ} {Y : YZ} {A : Nat → Prop} {Q : State → Prop} {cells slots b L q : Nat} {xs : Nat → Int32} {i : Int32} {a b2 : Nat → Nat} {o : OX6} {r : OX7} {g : Nat → Int64} (C : Cx p s m #[.ref b] c code 7 RL Z A) (hX : XT Y A s s.heap) (hN : XNo s) (hst : l.stackTraces = false) (hSc : va_X b L xs s s.heap) (hbl : b < s.heap.size) (hbA : ¬ A b) (hR1 : cells + 3 ≤ room_1.cells) (hR2 : slots + 18 ≤ room_1.slots) (h1 : vp_in (i + 1) L) (h2 : vp_in (i + 2) L) (h3 : vp_in (i + 3) L) {res : (Nat ⊕ Int32) × OX6} {res2 : Int32 × OX7} (H1 : fX6_step o (xs (ix (i + 1))) (xs (ix (i + 2))) (bz (xs (ix (i + 3)))) = some res) (H2 : fX7_step_ r (xs (ix (i + 1))) (xs (ix (i + 2))) (bz (xs (ix (i + 3)))) = some res2) (Hk : ∀ k, res.1 = .inl k → k = 2 ∨ k = 3) (H3 : q7_thrown (mh_step r res2.2) = hcd [2, 3] res.1) (H4 : ∀ v, res.1 = .inr v → res2.1 = v) (K : Gw p l e room_1 s m #[.ref b] below meth c 7 Z A Q (cells + 3) (slots + 18) (2645) [(0, .ref b), (1, .ref (a 0)), (2, .ref (b2 0)), (3, .ref q), (4, .int i)] [] (WS Z a b2 q (mg_step o res.2) (mh_step r res2.2) (outI g res.1))) : Gw p l e room_1 s m #[.ref b] below meth c 7 Z A Q (cells) (slots) (2301) [(0, .ref b), (1, .ref (a 0)), (2, .ref (b2 0)), (3, .ref q), (4, .int i)] [] (WS Z a b2 q o r g) := by
  refine g_aload_n C dL_law_2301 rfl 1 rfl ?_
  refine g_aload_n C dL_law_2302 rfl 0 rfl ?_
  refine g_iload C dL_law_2303 4 rfl ?_
  refine g_iconst C 1 dL_law_2305 (by decide) ?_
  refine g_iadd C dL_law_2306 ?_
  refine g_sld C hSc hbl hbA h1 dL_law_2307 ?_
  refine g_aload_n C dL_law_2308 rfl 0 rfl ?_
  refine g_iload C dL_law_2309 4 rfl ?_
  refine g_iconst C 2 dL_law_2311 (by decide) ?_
  refine g_iadd C dL_law_2312 ?_
  refine g_sld C hSc hbl hbA h2 dL_law_2313 ?_
  refine g_aload_n C dL_law_2314 rfl 0 rfl ?_
  refine g_iload C dL_law_2315 4 rfl ?_
  refine g_iconst C 3 dL_law_2317 (by decide) ?_
  refine g_iadd C dL_law_2318 ?_
  refine g_sld C hSc hbl hbA h3 dL_law_2319 ?_
  refine g_if_eq C 2327 dL_law_2320 (by decide) (fun cb => ?_) (fun cb => ?_)
  · have e99 : bz (xs (ix (i + 3))) = 0 := if_pos cb
    rw [e99] at H1 H2
    refine g_iconst C 0 dL_law_2327 (by decide) ?_
    refine g_aload_n C dL_law_2328 rfl 3 rfl ?_
    refine gx_callL C hX hN (kL_step l hst Z Y a q o g (xs (ix (i + 1))) (xs (ix (i + 2))) 0 res H1 Hk) mw_5_8 mw_1_0 mw_5_7 ⟨by decide +kernel, by decide +kernel⟩ (n := 5) (by decide +kernel) 288 mw_5_6 rfl [0, 1, 2, 3, 4, 5, 6, 7, 8, 9, 10, 11, 12, 13, 14, 15, 16, 17, 18, 19, 20, 21, 22, 23, 24, 25, 26, 27, 28, 29, 30, 31, 32, 33, 34, 35, 36, 37, 38, 39, 40, 41, 42, 43, 44, 45] [46, 47, 48, 49, 50, 51, 52, 53, 54, 55, 56, 57, 58, 59, 60] [15, 16, 17, 18, 19, 20, 21, 22, 23, 24, 25, 26, 27, 28, 29, 30, 31, 32, 33, 34, 35, 36, 37, 38, 39, 40, 41, 42, 43, 44, 45, 46, 47, 48, 49, 50, 51, 52, 53, 54, 55, 56, 57, 58, 59, 60, 0, 1, 2, 3, 4, 5, 6, 7, 8, 9, 10, 11, 12, 13, 14] (wr := wX7 Z b2 r) rfl rfl (by decide) (by decide) (by decide) (WS Z a b2 q (mg_step o res.2) r (outI g res.1)) rfl (by decide) (Nat.le_of_ble_eq_true rfl) (Nat.le_of_ble_eq_true rfl) (Nat.le_of_ble_eq_true rfl) ⟨by omega, by omega⟩ rfl dL_law_2329 ?_
    refine g_istore C dL_law_2332 (by decide) [(5, .int (hcd [2, 3] res.1)), (0, .ref b), (1, .ref (a 0)), (2, .ref (b2 0)), (3, .ref q), (4, .int i)] rfl ?_
    refine g_aload_n C dL_law_2334 rfl 3 rfl ?_
    refine g_aload_n C dL_law_2335 rfl 1 rfl ?_
    refine g_iload C dL_law_2336 5 rfl ?_
    refine g_iconst C 1 dL_law_2338 (by decide) ?_
    refine g_iadd C dL_law_2339 ?_
    refine g_sld C hSc hbl hbA h1 dL_law_2340 ?_
    refine g_aload_n C dL_law_2341 rfl 1 rfl ?_
    refine g_iload C dL_law_2342 5 rfl ?_
    refine g_iconst C 2 dL_law_2344 (by decide) ?_
    refine g_iadd C dL_law_2345 ?_
    refine g_sld C hSc hbl hbA h2 dL_law_2346 ?_
    refine g_aload_n C dL_law_2347 rfl 1 rfl ?_
    refine g_iload C dL_law_2348 5 rfl ?_
    refine g_iconst C 3 dL_law_2350 (by decide) ?_
    refine g_iadd C dL_law_2351 ?_
    refine g_sld C hSc hbl hbA h3 dL_law_2352 ?_
    refine g_if_eq C 2360 dL_law_2353 (by decide) (fun _ => ?_) (fun z => absurd cb z)
    refine g_iconst C 0 dL_law_2360 (by decide) ?_
    refine g_callVi C (kX7_step_ l Z (b2 0) (b2 1) (b2 2) (b2 3) (b2 4) (b2 5) (b2 6) (b2 7) (b2 8) (b2 9) (b2 10) (b2 11) (b2 12) (b2 13) (b2 14) r (xs (ix (i + 1))) (xs (ix (i + 2))) 0 res2 H2) 0 rfl (ci := 7) rfl rfl myX7_step_ 290 mw_7_97 rfl [46, 48, 52, 53, 54, 55, 57] [0, 1, 2, 3, 4, 5, 6, 7, 8, 9, 10, 11, 12, 13, 14, 15, 16, 17, 18, 19, 20, 21, 22, 23, 24, 25, 26, 27, 28, 29, 30, 31, 32, 33, 34, 35, 36, 37, 38, 39, 40, 41, 42, 43, 44, 45, 47, 49, 50, 51, 56, 58, 59, 60] [0, 1, 2, 3, 4, 5, 6, 7, 8, 9, 10, 11, 12, 13, 14, 15, 16, 17, 18, 19, 20, 21, 22, 23, 24, 25, 26, 27, 28, 29, 30, 31, 32, 33, 34, 35, 36, 37, 38, 39, 40, 41, 42, 43, 44, 45, 54, 46, 55, 47, 48, 49, 56, 57, 58, 59, 50, 60, 51, 52, 53] (wr := ((wX6 Z a (mg_step o res.2) ++ [(q, .inl (zJ Z, 1, .inr (.inl (outI g res.1))))]) ++ [((b2 1), .inl (zI Z, 300, .inl (q7_buffer r))), ((b2 3), .inl (zI Z, 12, .inl (q7_made r))), ((b2 4), .inl (zI Z, 96, .inl (q7_history r))), ((b2 5), .inl (zI Z, 12, .inl (q7_saved r))), ((b2 10), .inl (zI Z, 256, .inl (q7_counted r))), ((b2 12), .inl (zI Z, 12, .inl (q7_onto r))), ((b2 13), .inl (zI Z, 8, .inl (q7_goes r))), ((b2 14), .inl (zI Z, 8, .inl (q7_firstImage r)))])) rfl rfl (by decide) (by decide) (by decide) (WS Z a b2 q (mg_step o res.2) (mh_step r res2.2) (outI g res.1)) rfl (by decide) (Nat.le_of_ble_eq_true rfl) (Nat.le_of_ble_eq_true rfl) (Nat.le_of_ble_eq_true rfl) ⟨by omega, by omega⟩ rfl dL_law_2361 ?_
    refine g_istore C dL_law_2364 (by decide) [(6, .int res2.1), (5, .int (hcd [2, 3] res.1)), (0, .ref b), (1, .ref (a 0)), (2, .ref (b2 0)), (3, .ref q), (4, .int i)] rfl ?_
    refine g_aload_n C dL_law_2366 rfl 4 rfl ?_
    refine g_callVi C (kX7_thrown l Z (b2 0) (b2 1) (b2 2) (b2 3) (b2 4) (b2 5) (b2 6) (b2 7) (b2 8) (b2 9) (b2 10) (b2 11) (b2 12) (b2 13) (b2 14) (mh_step r res2.2) (q7_thrown (mh_step r res2.2)) rfl) 0 rfl (ci := 7) rfl rfl myX7_thrown 139 mw_5_170 rfl [46] [0, 1, 2, 3, 4, 5, 6, 7, 8, 9, 10, 11, 12, 13, 14, 15, 16, 17, 18, 19, 20, 21, 22, 23, 24, 25, 26, 27, 28, 29, 30, 31, 32, 33, 34, 35, 36, 37, 38, 39, 40, 41, 42, 43, 44, 45, 47, 48, 49, 50, 51, 52, 53, 54, 55, 56, 57, 58, 59, 60] [0, 1, 2, 3, 4, 5, 6, 7, 8, 9, 10, 11, 12, 13, 14, 15, 16, 17, 18, 19, 20, 21, 22, 23, 24, 25, 26, 27, 28, 29, 30, 31, 32, 33, 34, 35, 36, 37, 38, 39, 40, 41, 42, 43, 44, 45, 60, 46, 47, 48, 49, 50, 51, 52, 53, 54, 55, 56, 57, 58, 59] (wr := ((wX6 Z a (mg_step o res.2) ++ [(q, .inl (zJ Z, 1, .inr (.inl (outI g res.1))))]) ++ [((b2 1), .inl (zI Z, 300, .inl (q7_buffer (mh_step r res2.2)))), ((b2 2), .inl (zI Z, 12, .inl (q7_now (mh_step r res2.2)))), ((b2 3), .inl (zI Z, 12, .inl (q7_made (mh_step r res2.2)))), ((b2 4), .inl (zI Z, 96, .inl (q7_history (mh_step r res2.2)))), ((b2 5), .inl (zI Z, 12, .inl (q7_saved (mh_step r res2.2)))), ((b2 6), .inl (zI Z, 256, .inl (q7_closed (mh_step r res2.2)))), ((b2 7), .inl (zI Z, 256, .inl (q7_faces (mh_step r res2.2)))), ((b2 8), .inl (zI Z, 256, .inl (q7_rankOf (mh_step r res2.2)))), ((b2 9), .inl (zI Z, 256, .inl (q7_placeOf (mh_step r res2.2)))), ((b2 10), .inl (zI Z, 256, .inl (q7_counted (mh_step r res2.2)))), ((b2 11), .inl (zI Z, 10, .inl (q7_steps (mh_step r res2.2)))), ((b2 12), .inl (zI Z, 12, .inl (q7_onto (mh_step r res2.2)))), ((b2 13), .inl (zI Z, 8, .inl (q7_goes (mh_step r res2.2)))), ((b2 14), .inl (zI Z, 8, .inl (q7_firstImage (mh_step r res2.2))))])) rfl rfl (by decide) (by decide) (by decide) (WS Z a b2 q (mg_step o res.2) (mh_step r res2.2) (outI g res.1)) rfl (by decide) (Nat.le_of_ble_eq_true rfl) (Nat.le_of_ble_eq_true rfl) (Nat.le_of_ble_eq_true rfl) ⟨by omega, by omega⟩ rfl dL_law_2367 ?_
    refine g_iload C dL_law_2370 1 rfl ?_
    refine g_icmp_eq C 2377 dL_law_2372 (by decide) (fun _ => ?_) (fun z => absurd H3 z)
    refine g_iload C dL_law_2377 1 rfl ?_
    refine g_if_ne C 2394 dL_law_2379 (by decide) (fun c2 => ?_) (fun c2 => ?_)
    · skip
      refine g_goto C 2645 dL_law_2394 (by decide) ?_
      refine g_lv [2, 3, 4, 5, 6] [(0, .ref b), (1, .ref (a 0)), (2, .ref (b2 0)), (3, .ref q), (4, .int i)] rfl ?_
      exact g_widen (cells + 3) (slots + 18) (by omega) (by omega) K
    · obtain ⟨v, hv⟩ := hcd_zero [2, 3] (by decide) c2
      refine g_aload_n C dL_law_2382 rfl 5 rfl ?_
      refine g_iconst C 0 dL_law_2383 (by decide) ?_
      refine g_lald C 45 rfl (by decide) dL_law_2384 ?_
      refine g_iload C dL_law_2385 0 rfl ?_
      refine g_i2l C dL_law_2387 ?_
      refine g_lcmp C dL_law_2388 ?_
      refine g_if_eq C 2394 dL_law_2389 (by decide) (fun _ => ?_) (fun z => absurd (by rw [hv, H4 v hv, outI_at]; exact lcmp_self _) z)
      refine g_goto C 2645 dL_law_2394 (by decide) ?_
      refine g_lv [2, 3, 4, 5, 6] [(0, .ref b), (1, .ref (a 0)), (2, .ref (b2 0)), (3, .ref q), (4, .int i)] rfl ?_
      exact g_widen (cells + 3) (slots + 18) (by omega) (by omega) K
  · have e99 : bz (xs (ix (i + 3))) = 1 := if_neg cb
    rw [e99] at H1 H2
    refine g_iconst C 1 dL_law_2323 (by decide) ?_
    refine g_goto C 2328 dL_law_2324 (by decide) ?_
    refine g_aload_n C dL_law_2328 rfl 3 rfl ?_
    refine gx_callL C hX hN (kL_step l hst Z Y a q o g (xs (ix (i + 1))) (xs (ix (i + 2))) 1 res H1 Hk) mw_5_8 mw_1_0 mw_5_7 ⟨by decide +kernel, by decide +kernel⟩ (n := 5) (by decide +kernel) 288 mw_5_6 rfl [0, 1, 2, 3, 4, 5, 6, 7, 8, 9, 10, 11, 12, 13, 14, 15, 16, 17, 18, 19, 20, 21, 22, 23, 24, 25, 26, 27, 28, 29, 30, 31, 32, 33, 34, 35, 36, 37, 38, 39, 40, 41, 42, 43, 44, 45] [46, 47, 48, 49, 50, 51, 52, 53, 54, 55, 56, 57, 58, 59, 60] [15, 16, 17, 18, 19, 20, 21, 22, 23, 24, 25, 26, 27, 28, 29, 30, 31, 32, 33, 34, 35, 36, 37, 38, 39, 40, 41, 42, 43, 44, 45, 46, 47, 48, 49, 50, 51, 52, 53, 54, 55, 56, 57, 58, 59, 60, 0, 1, 2, 3, 4, 5, 6, 7, 8, 9, 10, 11, 12, 13, 14] (wr := wX7 Z b2 r) rfl rfl (by decide) (by decide) (by decide) (WS Z a b2 q (mg_step o res.2) r (outI g res.1)) rfl (by decide) (Nat.le_of_ble_eq_true rfl) (Nat.le_of_ble_eq_true rfl) (Nat.le_of_ble_eq_true rfl) ⟨by omega, by omega⟩ rfl dL_law_2329 ?_
    refine g_istore C dL_law_2332 (by decide) [(5, .int (hcd [2, 3] res.1)), (0, .ref b), (1, .ref (a 0)), (2, .ref (b2 0)), (3, .ref q), (4, .int i)] rfl ?_
    refine g_aload_n C dL_law_2334 rfl 3 rfl ?_
    refine g_aload_n C dL_law_2335 rfl 1 rfl ?_
    refine g_iload C dL_law_2336 5 rfl ?_
    refine g_iconst C 1 dL_law_2338 (by decide) ?_
    refine g_iadd C dL_law_2339 ?_
    refine g_sld C hSc hbl hbA h1 dL_law_2340 ?_
    refine g_aload_n C dL_law_2341 rfl 1 rfl ?_
    refine g_iload C dL_law_2342 5 rfl ?_
    refine g_iconst C 2 dL_law_2344 (by decide) ?_
    refine g_iadd C dL_law_2345 ?_
    refine g_sld C hSc hbl hbA h2 dL_law_2346 ?_
    refine g_aload_n C dL_law_2347 rfl 1 rfl ?_
    refine g_iload C dL_law_2348 5 rfl ?_
    refine g_iconst C 3 dL_law_2350 (by decide) ?_
    refine g_iadd C dL_law_2351 ?_
    refine g_sld C hSc hbl hbA h3 dL_law_2352 ?_
    refine g_if_eq C 2360 dL_law_2353 (by decide) (fun z => absurd z cb) (fun _ => ?_)
    refine g_iconst C 1 dL_law_2356 (by decide) ?_
    refine g_goto C 2361 dL_law_2357 (by decide) ?_
    refine g_callVi C (kX7_step_ l Z (b2 0) (b2 1) (b2 2) (b2 3) (b2 4) (b2 5) (b2 6) (b2 7) (b2 8) (b2 9) (b2 10) (b2 11) (b2 12) (b2 13) (b2 14) r (xs (ix (i + 1))) (xs (ix (i + 2))) 1 res2 H2) 0 rfl (ci := 7) rfl rfl myX7_step_ 290 mw_7_97 rfl [46, 48, 52, 53, 54, 55, 57] [0, 1, 2, 3, 4, 5, 6, 7, 8, 9, 10, 11, 12, 13, 14, 15, 16, 17, 18, 19, 20, 21, 22, 23, 24, 25, 26, 27, 28, 29, 30, 31, 32, 33, 34, 35, 36, 37, 38, 39, 40, 41, 42, 43, 44, 45, 47, 49, 50, 51, 56, 58, 59, 60] [0, 1, 2, 3, 4, 5, 6, 7, 8, 9, 10, 11, 12, 13, 14, 15, 16, 17, 18, 19, 20, 21, 22, 23, 24, 25, 26, 27, 28, 29, 30, 31, 32, 33, 34, 35, 36, 37, 38, 39, 40, 41, 42, 43, 44, 45, 54, 46, 55, 47, 48, 49, 56, 57, 58, 59, 50, 60, 51, 52, 53] (wr := ((wX6 Z a (mg_step o res.2) ++ [(q, .inl (zJ Z, 1, .inr (.inl (outI g res.1))))]) ++ [((b2 1), .inl (zI Z, 300, .inl (q7_buffer r))), ((b2 3), .inl (zI Z, 12, .inl (q7_made r))), ((b2 4), .inl (zI Z, 96, .inl (q7_history r))), ((b2 5), .inl (zI Z, 12, .inl (q7_saved r))), ((b2 10), .inl (zI Z, 256, .inl (q7_counted r))), ((b2 12), .inl (zI Z, 12, .inl (q7_onto r))), ((b2 13), .inl (zI Z, 8, .inl (q7_goes r))), ((b2 14), .inl (zI Z, 8, .inl (q7_firstImage r)))])) rfl rfl (by decide) (by decide) (by decide) (WS Z a b2 q (mg_step o res.2) (mh_step r res2.2) (outI g res.1)) rfl (by decide) (Nat.le_of_ble_eq_true rfl) (Nat.le_of_ble_eq_true rfl) (Nat.le_of_ble_eq_true rfl) ⟨by omega, by omega⟩ rfl dL_law_2361 ?_
    refine g_istore C dL_law_2364 (by decide) [(6, .int res2.1), (5, .int (hcd [2, 3] res.1)), (0, .ref b), (1, .ref (a 0)), (2, .ref (b2 0)), (3, .ref q), (4, .int i)] rfl ?_
    refine g_aload_n C dL_law_2366 rfl 4 rfl ?_
    refine g_callVi C (kX7_thrown l Z (b2 0) (b2 1) (b2 2) (b2 3) (b2 4) (b2 5) (b2 6) (b2 7) (b2 8) (b2 9) (b2 10) (b2 11) (b2 12) (b2 13) (b2 14) (mh_step r res2.2) (q7_thrown (mh_step r res2.2)) rfl) 0 rfl (ci := 7) rfl rfl myX7_thrown 139 mw_5_170 rfl [46] [0, 1, 2, 3, 4, 5, 6, 7, 8, 9, 10, 11, 12, 13, 14, 15, 16, 17, 18, 19, 20, 21, 22, 23, 24, 25, 26, 27, 28, 29, 30, 31, 32, 33, 34, 35, 36, 37, 38, 39, 40, 41, 42, 43, 44, 45, 47, 48, 49, 50, 51, 52, 53, 54, 55, 56, 57, 58, 59, 60] [0, 1, 2, 3, 4, 5, 6, 7, 8, 9, 10, 11, 12, 13, 14, 15, 16, 17, 18, 19, 20, 21, 22, 23, 24, 25, 26, 27, 28, 29, 30, 31, 32, 33, 34, 35, 36, 37, 38, 39, 40, 41, 42, 43, 44, 45, 60, 46, 47, 48, 49, 50, 51, 52, 53, 54, 55, 56, 57, 58, 59] (wr := ((wX6 Z a (mg_step o res.2) ++ [(q, .inl (zJ Z, 1, .inr (.inl (outI g res.1))))]) ++ [((b2 1), .inl (zI Z, 300, .inl (q7_buffer (mh_step r res2.2)))), ((b2 2), .inl (zI Z, 12, .inl (q7_now (mh_step r res2.2)))), ((b2 3), .inl (zI Z, 12, .inl (q7_made (mh_step r res2.2)))), ((b2 4), .inl (zI Z, 96, .inl (q7_history (mh_step r res2.2)))), ((b2 5), .inl (zI Z, 12, .inl (q7_saved (mh_step r res2.2)))), ((b2 6), .inl (zI Z, 256, .inl (q7_closed (mh_step r res2.2)))), ((b2 7), .inl (zI Z, 256, .inl (q7_faces (mh_step r res2.2)))), ((b2 8), .inl (zI Z, 256, .inl (q7_rankOf (mh_step r res2.2)))), ((b2 9), .inl (zI Z, 256, .inl (q7_placeOf (mh_step r res2.2)))), ((b2 10), .inl (zI Z, 256, .inl (q7_counted (mh_step r res2.2)))), ((b2 11), .inl (zI Z, 10, .inl (q7_steps (mh_step r res2.2)))), ((b2 12), .inl (zI Z, 12, .inl (q7_onto (mh_step r res2.2)))), ((b2 13), .inl (zI Z, 8, .inl (q7_goes (mh_step r res2.2)))), ((b2 14), .inl (zI Z, 8, .inl (q7_firstImage (mh_step r res2.2))))])) rfl rfl (by decide) (by decide) (by decide) (WS Z a b2 q (mg_step o res.2) (mh_step r res2.2) (outI g res.1)) rfl (by decide) (Nat.le_of_ble_eq_true rfl) (Nat.le_of_ble_eq_true rfl) (Nat.le_of_ble_eq_true rfl) ⟨by omega, by omega⟩ rfl dL_law_2367 ?_
    refine g_iload C dL_law_2370 1 rfl ?_
    refine g_icmp_eq C 2377 dL_law_2372 (by decide) (fun _ => ?_) (fun z => absurd H3 z)
    refine g_iload C dL_law_2377 1 rfl ?_
    refine g_if_ne C 2394 dL_law_2379 (by decide) (fun c2 => ?_) (fun c2 => ?_)
    · skip
      refine g_goto C 2645 dL_law_2394 (by decide) ?_
      refine g_lv [2, 3, 4, 5, 6] [(0, .ref b), (1, .ref (a 0)), (2, .ref (b2 0)), (3, .ref q), (4, .int i)] rfl ?_
      exact g_widen (cells + 3) (slots + 18) (by omega) (by omega) K
    · obtain ⟨v, hv⟩ := hcd_zero [2, 3] (by decide) c2
      refine g_aload_n C dL_law_2382 rfl 5 rfl ?_
      refine g_iconst C 0 dL_law_2383 (by decide) ?_
      refine g_lald C 45 rfl (by decide) dL_law_2384 ?_
      refine g_iload C dL_law_2385 0 rfl ?_
      refine g_i2l C dL_law_2387 ?_
      refine g_lcmp C dL_law_2388 ?_
      refine g_if_eq C 2394 dL_law_2389 (by decide) (fun _ => ?_) (fun z => absurd (by rw [hv, H4 v hv, outI_at]; exact lcmp_self _) z)
      refine g_goto C 2645 dL_law_2394 (by decide) ?_
      refine g_lv [2, 3, 4, 5, 6] [(0, .ref b), (1, .ref (a 0)), (2, .ref (b2 0)), (3, .ref q), (4, .int i)] rfl ?_
      exact g_widen (cells + 3) (slots + 18) (by omega) (by omega) K
set_option maxRecDepth 100000 in
set_option maxHeartbeats 4000000 in
theorem lc_44 {p : Program} {l : Launch} {e : Env} {s : State} {m : MethodId} {below : List Frame} {meth : Method} {c : Code} {Z : GZ} {Y : YZ} {A : Nat → Prop} {Q : State → Prop} {cells slots b L q : Nat} {xs : Nat → Int32} {i : Int32} {a b2 : Nat → Nat} {o : OX6} {r : OX7} {g : Nat → Int64} (C : Cx p s m #[.ref b] c code 7 RL Z A) (hX : XT Y A s s.heap) (hN : XNo s) (hst : l.stackTraces = false) (hSc : va_X b L xs s s.heap) (hbl : b < s.heap.size) (hbA : ¬ A b) (hR1 : cells + 3 ≤ room_1.cells) (hR2 : slots + 18 ≤ room_1.slots) (h1 : vp_in (i + 1) L) {res : (Nat ⊕ Int32) × OX6} {res2 : Int32 × OX7} (H1 : fX6_diameter o (bz (xs (ix (i + 1)))) = some res) (H2 : fX7_diameter r (bz (xs (ix (i + 1)))) = some res2) (Hk : ∀ k, res.1 = .inl k → k = 3) (H3 : q7_thrown (mh_diameter r res2.2) = hcd [3] res.1) (H4 : ∀ v, res.1 = .inr v → res2.1 = v) (K : Gw p l e room_1 s m #[.ref b] below meth c 7 Z A Q (cells + 3) (slots + 18) (2645) [(0, .ref b), (1, .ref (a 0)), (2, .ref (b2 0)), (3, .ref q), (4, .int i)] [] (WS Z a b2 q (mg_diameter o res.2) (mh_diameter r res2.2) (outI g res.1))) : Gw p l e room_1 s m #[.ref b] below meth c 7 Z A Q (cells) (slots) (2397) [(0, .ref b), (1, .ref (a 0)), (2, .ref (b2 0)), (3, .ref q), (4, .int i)] [] (WS Z a b2 q o r g) := by
  refine g_aload_n C dL_law_2397 rfl 1 rfl ?_
  refine g_aload_n C dL_law_2398 rfl 0 rfl ?_
  refine g_iload C dL_law_2399 4 rfl ?_
  refine g_iconst C 1 dL_law_2401 (by decide) ?_
  refine g_iadd C dL_law_2402 ?_
  refine g_sld C hSc hbl hbA h1 dL_law_2403 ?_
  refine g_if_eq C 2411 dL_law_2404 (by decide) (fun cb => ?_) (fun cb => ?_)
  · have e99 : bz (xs (ix (i + 1))) = 0 := if_pos cb
    rw [e99] at H1 H2
    refine g_iconst C 0 dL_law_2411 (by decide) ?_
    refine g_aload_n C dL_law_2412 rfl 3 rfl ?_
    refine gx_callL C hX hN (kL_diameter l hst Z Y a q o g 0 res H1 Hk) mw_5_36 mw_1_0 mw_5_35 ⟨by decide +kernel, by decide +kernel⟩ (n := 3) (by decide +kernel) 291 mw_5_34 rfl [0, 1, 2, 3, 4, 5, 6, 7, 8, 9, 10, 11, 12, 13, 14, 15, 16, 17, 18, 19, 20, 21, 22, 23, 24, 25, 26, 27, 28, 29, 30, 31, 32, 33, 34, 35, 36, 37, 38, 39, 40, 41, 42, 43, 44, 45] [46, 47, 48, 49, 50, 51, 52, 53, 54, 55, 56, 57, 58, 59, 60] [15, 16, 17, 18, 19, 20, 21, 22, 23, 24, 25, 26, 27, 28, 29, 30, 31, 32, 33, 34, 35, 36, 37, 38, 39, 40, 41, 42, 43, 44, 45, 46, 47, 48, 49, 50, 51, 52, 53, 54, 55, 56, 57, 58, 59, 60, 0, 1, 2, 3, 4, 5, 6, 7, 8, 9, 10, 11, 12, 13, 14] (wr := wX7 Z b2 r) rfl rfl (by decide) (by decide) (by decide) (WS Z a b2 q (mg_diameter o res.2) r (outI g res.1)) rfl (by decide) (Nat.le_of_ble_eq_true rfl) (Nat.le_of_ble_eq_true rfl) (Nat.le_of_ble_eq_true rfl) ⟨by omega, by omega⟩ rfl dL_law_2413 ?_
    refine g_istore C dL_law_2416 (by decide) [(5, .int (hcd [3] res.1)), (0, .ref b), (1, .ref (a 0)), (2, .ref (b2 0)), (3, .ref q), (4, .int i)] rfl ?_
    refine g_aload_n C dL_law_2418 rfl 3 rfl ?_
    refine g_aload_n C dL_law_2419 rfl 1 rfl ?_
    refine g_iload C dL_law_2420 5 rfl ?_
    refine g_iconst C 1 dL_law_2422 (by decide) ?_
    refine g_iadd C dL_law_2423 ?_
    refine g_sld C hSc hbl hbA h1 dL_law_2424 ?_
    refine g_if_eq C 2432 dL_law_2425 (by decide) (fun _ => ?_) (fun z => absurd cb z)
    refine g_iconst C 0 dL_law_2432 (by decide) ?_
    refine g_callVi C (kX7_diameter l Z (b2 0) (b2 1) (b2 2) (b2 3) (b2 4) (b2 5) (b2 6) (b2 7) (b2 8) (b2 9) (b2 10) (b2 11) (b2 12) (b2 13) (b2 14) r 0 res2 H2) 0 rfl (ci := 7) rfl rfl myX7_diameter 294 mw_7_101 rfl [46, 48, 52, 53, 54, 55, 57] [0, 1, 2, 3, 4, 5, 6, 7, 8, 9, 10, 11, 12, 13, 14, 15, 16, 17, 18, 19, 20, 21, 22, 23, 24, 25, 26, 27, 28, 29, 30, 31, 32, 33, 34, 35, 36, 37, 38, 39, 40, 41, 42, 43, 44, 45, 47, 49, 50, 51, 56, 58, 59, 60] [0, 1, 2, 3, 4, 5, 6, 7, 8, 9, 10, 11, 12, 13, 14, 15, 16, 17, 18, 19, 20, 21, 22, 23, 24, 25, 26, 27, 28, 29, 30, 31, 32, 33, 34, 35, 36, 37, 38, 39, 40, 41, 42, 43, 44, 45, 54, 46, 55, 47, 48, 49, 56, 57, 58, 59, 50, 60, 51, 52, 53] (wr := ((wX6 Z a (mg_diameter o res.2) ++ [(q, .inl (zJ Z, 1, .inr (.inl (outI g res.1))))]) ++ [((b2 1), .inl (zI Z, 300, .inl (q7_buffer r))), ((b2 3), .inl (zI Z, 12, .inl (q7_made r))), ((b2 4), .inl (zI Z, 96, .inl (q7_history r))), ((b2 5), .inl (zI Z, 12, .inl (q7_saved r))), ((b2 10), .inl (zI Z, 256, .inl (q7_counted r))), ((b2 12), .inl (zI Z, 12, .inl (q7_onto r))), ((b2 13), .inl (zI Z, 8, .inl (q7_goes r))), ((b2 14), .inl (zI Z, 8, .inl (q7_firstImage r)))])) rfl rfl (by decide) (by decide) (by decide) (WS Z a b2 q (mg_diameter o res.2) (mh_diameter r res2.2) (outI g res.1)) rfl (by decide) (Nat.le_of_ble_eq_true rfl) (Nat.le_of_ble_eq_true rfl) (Nat.le_of_ble_eq_true rfl) ⟨by omega, by omega⟩ rfl dL_law_2433 ?_
    refine g_istore C dL_law_2436 (by decide) [(6, .int res2.1), (5, .int (hcd [3] res.1)), (0, .ref b), (1, .ref (a 0)), (2, .ref (b2 0)), (3, .ref q), (4, .int i)] rfl ?_
    refine g_aload_n C dL_law_2438 rfl 4 rfl ?_
    refine g_callVi C (kX7_thrown l Z (b2 0) (b2 1) (b2 2) (b2 3) (b2 4) (b2 5) (b2 6) (b2 7) (b2 8) (b2 9) (b2 10) (b2 11) (b2 12) (b2 13) (b2 14) (mh_diameter r res2.2) (q7_thrown (mh_diameter r res2.2)) rfl) 0 rfl (ci := 7) rfl rfl myX7_thrown 139 mw_5_170 rfl [46] [0, 1, 2, 3, 4, 5, 6, 7, 8, 9, 10, 11, 12, 13, 14, 15, 16, 17, 18, 19, 20, 21, 22, 23, 24, 25, 26, 27, 28, 29, 30, 31, 32, 33, 34, 35, 36, 37, 38, 39, 40, 41, 42, 43, 44, 45, 47, 48, 49, 50, 51, 52, 53, 54, 55, 56, 57, 58, 59, 60] [0, 1, 2, 3, 4, 5, 6, 7, 8, 9, 10, 11, 12, 13, 14, 15, 16, 17, 18, 19, 20, 21, 22, 23, 24, 25, 26, 27, 28, 29, 30, 31, 32, 33, 34, 35, 36, 37, 38, 39, 40, 41, 42, 43, 44, 45, 60, 46, 47, 48, 49, 50, 51, 52, 53, 54, 55, 56, 57, 58, 59] (wr := ((wX6 Z a (mg_diameter o res.2) ++ [(q, .inl (zJ Z, 1, .inr (.inl (outI g res.1))))]) ++ [((b2 1), .inl (zI Z, 300, .inl (q7_buffer (mh_diameter r res2.2)))), ((b2 2), .inl (zI Z, 12, .inl (q7_now (mh_diameter r res2.2)))), ((b2 3), .inl (zI Z, 12, .inl (q7_made (mh_diameter r res2.2)))), ((b2 4), .inl (zI Z, 96, .inl (q7_history (mh_diameter r res2.2)))), ((b2 5), .inl (zI Z, 12, .inl (q7_saved (mh_diameter r res2.2)))), ((b2 6), .inl (zI Z, 256, .inl (q7_closed (mh_diameter r res2.2)))), ((b2 7), .inl (zI Z, 256, .inl (q7_faces (mh_diameter r res2.2)))), ((b2 8), .inl (zI Z, 256, .inl (q7_rankOf (mh_diameter r res2.2)))), ((b2 9), .inl (zI Z, 256, .inl (q7_placeOf (mh_diameter r res2.2)))), ((b2 10), .inl (zI Z, 256, .inl (q7_counted (mh_diameter r res2.2)))), ((b2 11), .inl (zI Z, 10, .inl (q7_steps (mh_diameter r res2.2)))), ((b2 12), .inl (zI Z, 12, .inl (q7_onto (mh_diameter r res2.2)))), ((b2 13), .inl (zI Z, 8, .inl (q7_goes (mh_diameter r res2.2)))), ((b2 14), .inl (zI Z, 8, .inl (q7_firstImage (mh_diameter r res2.2))))])) rfl rfl (by decide) (by decide) (by decide) (WS Z a b2 q (mg_diameter o res.2) (mh_diameter r res2.2) (outI g res.1)) rfl (by decide) (Nat.le_of_ble_eq_true rfl) (Nat.le_of_ble_eq_true rfl) (Nat.le_of_ble_eq_true rfl) ⟨by omega, by omega⟩ rfl dL_law_2439 ?_
    refine g_iload C dL_law_2442 1 rfl ?_
    refine g_icmp_eq C 2449 dL_law_2444 (by decide) (fun _ => ?_) (fun z => absurd H3 z)
    refine g_iload C dL_law_2449 1 rfl ?_
    refine g_if_ne C 2466 dL_law_2451 (by decide) (fun c2 => ?_) (fun c2 => ?_)
    · skip
      refine g_goto C 2645 dL_law_2466 (by decide) ?_
      refine g_lv [2, 3, 4, 5, 6] [(0, .ref b), (1, .ref (a 0)), (2, .ref (b2 0)), (3, .ref q), (4, .int i)] rfl ?_
      exact g_widen (cells + 3) (slots + 18) (by omega) (by omega) K
    · obtain ⟨v, hv⟩ := hcd_zero [3] (by decide) c2
      refine g_aload_n C dL_law_2454 rfl 5 rfl ?_
      refine g_iconst C 0 dL_law_2455 (by decide) ?_
      refine g_lald C 45 rfl (by decide) dL_law_2456 ?_
      refine g_iload C dL_law_2457 0 rfl ?_
      refine g_i2l C dL_law_2459 ?_
      refine g_lcmp C dL_law_2460 ?_
      refine g_if_eq C 2466 dL_law_2461 (by decide) (fun _ => ?_) (fun z => absurd (by rw [hv, H4 v hv, outI_at]; exact lcmp_self _) z)
      refine g_goto C 2645 dL_law_2466 (by decide) ?_
      refine g_lv [2, 3, 4, 5, 6] [(0, .ref b), (1, .ref (a 0)), (2, .ref (b2 0)), (3, .ref q), (4, .int i)] rfl ?_
      exact g_widen (cells + 3) (slots + 18) (by omega) (by omega) K
  · have e99 : bz (xs (ix (i + 1))) = 1 := if_neg cb
    rw [e99] at H1 H2
    refine g_iconst C 1 dL_law_2407 (by decide) ?_
    refine g_goto C 2412 dL_law_2408 (by decide) ?_
    refine g_aload_n C dL_law_2412 rfl 3 rfl ?_
    refine gx_callL C hX hN (kL_diameter l hst Z Y a q o g 1 res H1 Hk) mw_5_36 mw_1_0 mw_5_35 ⟨by decide +kernel, by decide +kernel⟩ (n := 3) (by decide +kernel) 291 mw_5_34 rfl [0, 1, 2, 3, 4, 5, 6, 7, 8, 9, 10, 11, 12, 13, 14, 15, 16, 17, 18, 19, 20, 21, 22, 23, 24, 25, 26, 27, 28, 29, 30, 31, 32, 33, 34, 35, 36, 37, 38, 39, 40, 41, 42, 43, 44, 45] [46, 47, 48, 49, 50, 51, 52, 53, 54, 55, 56, 57, 58, 59, 60] [15, 16, 17, 18, 19, 20, 21, 22, 23, 24, 25, 26, 27, 28, 29, 30, 31, 32, 33, 34, 35, 36, 37, 38, 39, 40, 41, 42, 43, 44, 45, 46, 47, 48, 49, 50, 51, 52, 53, 54, 55, 56, 57, 58, 59, 60, 0, 1, 2, 3, 4, 5, 6, 7, 8, 9, 10, 11, 12, 13, 14] (wr := wX7 Z b2 r) rfl rfl (by decide) (by decide) (by decide) (WS Z a b2 q (mg_diameter o res.2) r (outI g res.1)) rfl (by decide) (Nat.le_of_ble_eq_true rfl) (Nat.le_of_ble_eq_true rfl) (Nat.le_of_ble_eq_true rfl) ⟨by omega, by omega⟩ rfl dL_law_2413 ?_
    refine g_istore C dL_law_2416 (by decide) [(5, .int (hcd [3] res.1)), (0, .ref b), (1, .ref (a 0)), (2, .ref (b2 0)), (3, .ref q), (4, .int i)] rfl ?_
    refine g_aload_n C dL_law_2418 rfl 3 rfl ?_
    refine g_aload_n C dL_law_2419 rfl 1 rfl ?_
    refine g_iload C dL_law_2420 5 rfl ?_
    refine g_iconst C 1 dL_law_2422 (by decide) ?_
    refine g_iadd C dL_law_2423 ?_
    refine g_sld C hSc hbl hbA h1 dL_law_2424 ?_
    refine g_if_eq C 2432 dL_law_2425 (by decide) (fun z => absurd z cb) (fun _ => ?_)
    refine g_iconst C 1 dL_law_2428 (by decide) ?_
    refine g_goto C 2433 dL_law_2429 (by decide) ?_
    refine g_callVi C (kX7_diameter l Z (b2 0) (b2 1) (b2 2) (b2 3) (b2 4) (b2 5) (b2 6) (b2 7) (b2 8) (b2 9) (b2 10) (b2 11) (b2 12) (b2 13) (b2 14) r 1 res2 H2) 0 rfl (ci := 7) rfl rfl myX7_diameter 294 mw_7_101 rfl [46, 48, 52, 53, 54, 55, 57] [0, 1, 2, 3, 4, 5, 6, 7, 8, 9, 10, 11, 12, 13, 14, 15, 16, 17, 18, 19, 20, 21, 22, 23, 24, 25, 26, 27, 28, 29, 30, 31, 32, 33, 34, 35, 36, 37, 38, 39, 40, 41, 42, 43, 44, 45, 47, 49, 50, 51, 56, 58, 59, 60] [0, 1, 2, 3, 4, 5, 6, 7, 8, 9, 10, 11, 12, 13, 14, 15, 16, 17, 18, 19, 20, 21, 22, 23, 24, 25, 26, 27, 28, 29, 30, 31, 32, 33, 34, 35, 36, 37, 38, 39, 40, 41, 42, 43, 44, 45, 54, 46, 55, 47, 48, 49, 56, 57, 58, 59, 50, 60, 51, 52, 53] (wr := ((wX6 Z a (mg_diameter o res.2) ++ [(q, .inl (zJ Z, 1, .inr (.inl (outI g res.1))))]) ++ [((b2 1), .inl (zI Z, 300, .inl (q7_buffer r))), ((b2 3), .inl (zI Z, 12, .inl (q7_made r))), ((b2 4), .inl (zI Z, 96, .inl (q7_history r))), ((b2 5), .inl (zI Z, 12, .inl (q7_saved r))), ((b2 10), .inl (zI Z, 256, .inl (q7_counted r))), ((b2 12), .inl (zI Z, 12, .inl (q7_onto r))), ((b2 13), .inl (zI Z, 8, .inl (q7_goes r))), ((b2 14), .inl (zI Z, 8, .inl (q7_firstImage r)))])) rfl rfl (by decide) (by decide) (by decide) (WS Z a b2 q (mg_diameter o res.2) (mh_diameter r res2.2) (outI g res.1)) rfl (by decide) (Nat.le_of_ble_eq_true rfl) (Nat.le_of_ble_eq_true rfl) (Nat.le_of_ble_eq_true rfl) ⟨by omega, by omega⟩ rfl dL_law_2433 ?_
    refine g_istore C dL_law_2436 (by decide) [(6, .int res2.1), (5, .int (hcd [3] res.1)), (0, .ref b), (1, .ref (a 0)), (2, .ref (b2 0)), (3, .ref q), (4, .int i)] rfl ?_
    refine g_aload_n C dL_law_2438 rfl 4 rfl ?_
    refine g_callVi C (kX7_thrown l Z (b2 0) (b2 1) (b2 2) (b2 3) (b2 4) (b2 5) (b2 6) (b2 7) (b2 8) (b2 9) (b2 10) (b2 11) (b2 12) (b2 13) (b2 14) (mh_diameter r res2.2) (q7_thrown (mh_diameter r res2.2)) rfl) 0 rfl (ci := 7) rfl rfl myX7_thrown 139 mw_5_170 rfl [46] [0, 1, 2, 3, 4, 5, 6, 7, 8, 9, 10, 11, 12, 13, 14, 15, 16, 17, 18, 19, 20, 21, 22, 23, 24, 25, 26, 27, 28, 29, 30, 31, 32, 33, 34, 35, 36, 37, 38, 39, 40, 41, 42, 43, 44, 45, 47, 48, 49, 50, 51, 52, 53, 54, 55, 56, 57, 58, 59, 60] [0, 1, 2, 3, 4, 5, 6, 7, 8, 9, 10, 11, 12, 13, 14, 15, 16, 17, 18, 19, 20, 21, 22, 23, 24, 25, 26, 27, 28, 29, 30, 31, 32, 33, 34, 35, 36, 37, 38, 39, 40, 41, 42, 43, 44, 45, 60, 46, 47, 48, 49, 50, 51, 52, 53, 54, 55, 56, 57, 58, 59] (wr := ((wX6 Z a (mg_diameter o res.2) ++ [(q, .inl (zJ Z, 1, .inr (.inl (outI g res.1))))]) ++ [((b2 1), .inl (zI Z, 300, .inl (q7_buffer (mh_diameter r res2.2)))), ((b2 2), .inl (zI Z, 12, .inl (q7_now (mh_diameter r res2.2)))), ((b2 3), .inl (zI Z, 12, .inl (q7_made (mh_diameter r res2.2)))), ((b2 4), .inl (zI Z, 96, .inl (q7_history (mh_diameter r res2.2)))), ((b2 5), .inl (zI Z, 12, .inl (q7_saved (mh_diameter r res2.2)))), ((b2 6), .inl (zI Z, 256, .inl (q7_closed (mh_diameter r res2.2)))), ((b2 7), .inl (zI Z, 256, .inl (q7_faces (mh_diameter r res2.2)))), ((b2 8), .inl (zI Z, 256, .inl (q7_rankOf (mh_diameter r res2.2)))), ((b2 9), .inl (zI Z, 256, .inl (q7_placeOf (mh_diameter r res2.2)))), ((b2 10), .inl (zI Z, 256, .inl (q7_counted (mh_diameter r res2.2)))), ((b2 11), .inl (zI Z, 10, .inl (q7_steps (mh_diameter r res2.2)))), ((b2 12), .inl (zI Z, 12, .inl (q7_onto (mh_diameter r res2.2)))), ((b2 13), .inl (zI Z, 8, .inl (q7_goes (mh_diameter r res2.2)))), ((b2 14), .inl (zI Z, 8, .inl (q7_firstImage (mh_diameter r res2.2))))])) rfl rfl (by decide) (by decide) (by decide) (WS Z a b2 q (mg_diameter o res.2) (mh_diameter r res2.2) (outI g res.1)) rfl (by decide) (Nat.le_of_ble_eq_true rfl) (Nat.le_of_ble_eq_true rfl) (Nat.le_of_ble_eq_true rfl) ⟨by omega, by omega⟩ rfl dL_law_2439 ?_
    refine g_iload C dL_law_2442 1 rfl ?_
    refine g_icmp_eq C 2449 dL_law_2444 (by decide) (fun _ => ?_) (fun z => absurd H3 z)
    refine g_iload C dL_law_2449 1 rfl ?_
    refine g_if_ne C 2466 dL_law_2451 (by decide) (fun c2 => ?_) (fun c2 => ?_)
    · skip
      refine g_goto C 2645 dL_law_2466 (by decide) ?_
      refine g_lv [2, 3, 4, 5, 6] [(0, .ref b), (1, .ref (a 0)), (2, .ref (b2 0)), (3, .ref q), (4, .int i)] rfl ?_
      exact g_widen (cells + 3) (slots + 18) (by omega) (by omega) K
    · obtain ⟨v, hv⟩ := hcd_zero [3] (by decide) c2
      refine g_aload_n C dL_law_2454 rfl 5 rfl ?_
      refine g_iconst C 0 dL_law_2455 (by decide) ?_
      refine g_lald C 45 rfl (by decide) dL_law_2456 ?_
      refine g_iload C dL_law_2457 0 rfl ?_
      refine g_i2l C dL_law_2459 ?_
      refine g_lcmp C dL_law_2460 ?_
      refine g_if_eq C 2466 dL_law_2461 (by decide) (fun _ => ?_) (fun z => absurd (by rw [hv, H4 v hv, outI_at]; exact lcmp_self _) z)
      refine g_goto C 2645 dL_law_2466 (by decide) ?_
      refine g_lv [2, 3, 4, 5, 6] [(0, .ref b), (1, .ref (a 0)), (2, .ref (b2 0)), (3, .ref q), (4, .int i)] rfl ?_
      exact g_widen (cells + 3) (slots + 18) (by omega) (by omega) K
set_option maxRecDepth 100000 in
set_option maxHeartbeats 4000000 in
theorem lc_45 {p : Program} {l : Launch} {e : Env} {s : State} {m : MethodId} {below : List Frame} {meth : Method} {c : Code} {Z : GZ} {Y : YZ} {A : Nat → Prop} {Q : State → Prop} {cells slots b L q : Nat} {xs : Nat → Int32} {i : Int32} {a b2 : Nat → Nat} {o : OX6} {r : OX7} {g : Nat → Int64} (C : Cx p s m #[.ref b] c code 7 RL Z A) (hX : XT Y A s s.heap) (hN : XNo s) (hst : l.stackTraces = false) (hSc : va_X b L xs s s.heap) (hbl : b < s.heap.size) (hbA : ¬ A b) (hR1 : cells + 3 ≤ room_1.cells) (hR2 : slots + 18 ≤ room_1.slots) {res : Int32 × OX6} {res2 : Int32 × OX7} (H1 : fX6_automorphisms o = some res) (H2 : fX7_automorphisms r = some res2) (H3 : res.1 = res2.1) (K : Gw p l e room_1 s m #[.ref b] below meth c 7 Z A Q (cells + 3) (slots + 18) (2645) [(0, .ref b), (1, .ref (a 0)), (2, .ref (b2 0)), (3, .ref q), (4, .int i)] [] (WS Z a b2 q (mg_automorphisms o res.2) (mh_automorphisms r res2.2) g)) : Gw p l e room_1 s m #[.ref b] below meth c 7 Z A Q (cells) (slots) (2469) [(0, .ref b), (1, .ref (a 0)), (2, .ref (b2 0)), (3, .ref q), (4, .int i)] [] (WS Z a b2 q o r g) := by
  refine g_aload_n C dL_law_2469 rfl 1 rfl ?_
  refine g_callVi C (kX6_automorphisms l Z (a 0) (a 1) (a 3) (a 21) (a 28) (a 30) (a 31) (a 32) (a 33) (a 34) (a 35) (a 36) (a 37) (a 38) (a 39) (a 40) (a 41) (a 43) o res H1) 0 rfl (ci := 6) rfl rfl myX6_automorphisms 295 mw_3_21 rfl [0, 30, 31, 32, 33, 34, 35, 36, 37, 38, 39, 40] [1, 2, 3, 4, 5, 6, 7, 8, 9, 10, 11, 12, 13, 14, 15, 16, 17, 18, 19, 20, 21, 22, 23, 24, 25, 26, 27, 28, 29, 41, 42, 43, 44, 45, 46, 47, 48, 49, 50, 51, 52, 53, 54, 55, 56, 57, 58, 59, 60] [49, 0, 1, 2, 3, 4, 5, 6, 7, 8, 9, 10, 11, 12, 13, 14, 15, 16, 17, 18, 19, 20, 21, 22, 23, 24, 25, 26, 27, 28, 50, 51, 52, 53, 54, 55, 56, 57, 58, 59, 60, 29, 30, 31, 32, 33, 34, 35, 36, 37, 38, 39, 40, 41, 42, 43, 44, 45, 46, 47, 48] (wr := ([((a 1), .inr (5, [.ref (a 2), .int (q5_length (q6_text o)), .int (q5_kind (q6_text o)), .int (q5_start (q6_text o)), .int (q5_end (q6_text o))])), ((a 2), .inl (zI Z, 300, .inl (q5_bytes (q6_text o)))), ((a 3), .inr (1, [.ref (a 4), .int (q1_oldest (q6_history o)), .int (q1_count (q6_history o))])), ((a 4), .inl (zQ Z, 8, .inr (.inr (.inr (.inr (rg8 (a 5) (a 7) (a 9) (a 11) (a 13) (a 15) (a 17) (a 19))))))), ((a 5), .inr (2, [.ref (a 6), .int (q2_points ((q1_ring (q6_history o)) 0)), .int (q2_facets ((q1_ring (q6_history o)) 0))])), ((a 6), .inl (zI Z, 10, .inl (q2_sets ((q1_ring (q6_history o)) 0)))), ((a 7), .inr (2, [.ref (a 8), .int (q2_points ((q1_ring (q6_history o)) 1)), .int (q2_facets ((q1_ring (q6_history o)) 1))])), ((a 8), .inl (zI Z, 10, .inl (q2_sets ((q1_ring (q6_history o)) 1)))), ((a 9), .inr (2, [.ref (a 10), .int (q2_points ((q1_ring (q6_history o)) 2)), .int (q2_facets ((q1_ring (q6_history o)) 2))])), ((a 10), .inl (zI Z, 10, .inl (q2_sets ((q1_ring (q6_history o)) 2)))), ((a 11), .inr (2, [.ref (a 12), .int (q2_points ((q1_ring (q6_history o)) 3)), .int (q2_facets ((q1_ring (q6_history o)) 3))])), ((a 12), .inl (zI Z, 10, .inl (q2_sets ((q1_ring (q6_history o)) 3)))), ((a 13), .inr (2, [.ref (a 14), .int (q2_points ((q1_ring (q6_history o)) 4)), .int (q2_facets ((q1_ring (q6_history o)) 4))])), ((a 14), .inl (zI Z, 10, .inl (q2_sets ((q1_ring (q6_history o)) 4)))), ((a 15), .inr (2, [.ref (a 16), .int (q2_points ((q1_ring (q6_history o)) 5)), .int (q2_facets ((q1_ring (q6_history o)) 5))])), ((a 16), .inl (zI Z, 10, .inl (q2_sets ((q1_ring (q6_history o)) 5)))), ((a 17), .inr (2, [.ref (a 18), .int (q2_points ((q1_ring (q6_history o)) 6)), .int (q2_facets ((q1_ring (q6_history o)) 6))])), ((a 18), .inl (zI Z, 10, .inl (q2_sets ((q1_ring (q6_history o)) 6)))), ((a 19), .inr (2, [.ref (a 20), .int (q2_points ((q1_ring (q6_history o)) 7)), .int (q2_facets ((q1_ring (q6_history o)) 7))])), ((a 20), .inl (zI Z, 10, .inl (q2_sets ((q1_ring (q6_history o)) 7)))), ((a 21), .inr (3, [.ref (a 22), .ref (a 23), .ref (a 24), .ref (a 25), .ref (a 26), .int (q3_size (q6_lattice o)), .ref (a 27), .int (q3_points (q6_lattice o)), .int (q3_all (q6_lattice o))])), ((a 22), .inl (zI Z, 256, .inl (q3_closed (q6_lattice o)))), ((a 23), .inl (zI Z, 256, .inl (q3_ranks (q6_lattice o)))), ((a 24), .inl (zI Z, 256, .inl (q3_numbers (q6_lattice o)))), ((a 25), .inl (zI Z, 256, .inl (q3_sets (q6_lattice o)))), ((a 26), .inl (zI Z, 9, .inl (q3_rankSizes (q6_lattice o)))), ((a 27), .inl (zI Z, 256, .inl (q3_tally (q6_lattice o)))), ((a 28), .inr (0, [.ref (a 29), .int (q0_size (q6_graph o))])), ((a 29), .inl (zI Z, 10, .inl (q0_nextTo (q6_graph o)))), ((a 41), .inr (2, [.ref (a 42), .int (q2_points (q6_saved o)), .int (q2_facets (q6_saved o))])), ((a 42), .inl (zI Z, 10, .inl (q2_sets (q6_saved o)))), ((a 43), .inr (2, [.ref (a 44), .int (q2_points (q6_next o)), .int (q2_facets (q6_next o))])), ((a 44), .inl (zI Z, 10, .inl (q2_sets (q6_next o))))] ++ ([(q, .inl (zJ Z, 1, .inr (.inl g)))] ++ wX7 Z b2 r))) rfl rfl (by decide) (by decide) (by decide) (WS Z a b2 q (mg_automorphisms o res.2) r g) rfl (by decide) (Nat.le_of_ble_eq_true rfl) (Nat.le_of_ble_eq_true rfl) (Nat.le_of_ble_eq_true rfl) ⟨by omega, by omega⟩ rfl dL_law_2470 ?_
  refine g_aload_n C dL_law_2473 rfl 2 rfl ?_
  refine g_callVi C (kX7_automorphisms l Z (b2 0) (b2 1) (b2 2) (b2 3) (b2 4) (b2 5) (b2 6) (b2 7) (b2 8) (b2 9) (b2 10) (b2 11) (b2 12) (b2 13) (b2 14) r res2 H2) 0 rfl (ci := 7) rfl rfl myX7_automorphisms 298 mw_7_105 rfl [46, 48, 58, 59, 60] [0, 1, 2, 3, 4, 5, 6, 7, 8, 9, 10, 11, 12, 13, 14, 15, 16, 17, 18, 19, 20, 21, 22, 23, 24, 25, 26, 27, 28, 29, 30, 31, 32, 33, 34, 35, 36, 37, 38, 39, 40, 41, 42, 43, 44, 45, 47, 49, 50, 51, 52, 53, 54, 55, 56, 57] [0, 1, 2, 3, 4, 5, 6, 7, 8, 9, 10, 11, 12, 13, 14, 15, 16, 17, 18, 19, 20, 21, 22, 23, 24, 25, 26, 27, 28, 29, 30, 31, 32, 33, 34, 35, 36, 37, 38, 39, 40, 41, 42, 43, 44, 45, 56, 46, 57, 47, 48, 49, 50, 51, 52, 53, 54, 55, 58, 59, 60] (wr := ((wX6 Z a (mg_automorphisms o res.2) ++ [(q, .inl (zJ Z, 1, .inr (.inl g)))]) ++ [((b2 1), .inl (zI Z, 300, .inl (q7_buffer r))), ((b2 3), .inl (zI Z, 12, .inl (q7_made r))), ((b2 4), .inl (zI Z, 96, .inl (q7_history r))), ((b2 5), .inl (zI Z, 12, .inl (q7_saved r))), ((b2 6), .inl (zI Z, 256, .inl (q7_closed r))), ((b2 7), .inl (zI Z, 256, .inl (q7_faces r))), ((b2 8), .inl (zI Z, 256, .inl (q7_rankOf r))), ((b2 9), .inl (zI Z, 256, .inl (q7_placeOf r))), ((b2 10), .inl (zI Z, 256, .inl (q7_counted r))), ((b2 11), .inl (zI Z, 10, .inl (q7_steps r)))])) rfl rfl (by decide) (by decide) (by decide) (WS Z a b2 q (mg_automorphisms o res.2) (mh_automorphisms r res2.2) g) rfl (by decide) (Nat.le_of_ble_eq_true rfl) (Nat.le_of_ble_eq_true rfl) (Nat.le_of_ble_eq_true rfl) ⟨by omega, by omega⟩ rfl dL_law_2474 ?_
  refine g_icmp_eq C 2645 dL_law_2477 (by decide) (fun _ => ?_) (fun z => absurd H3 z)
  refine g_lv [0, 1, 2, 3, 4] [(0, .ref b), (1, .ref (a 0)), (2, .ref (b2 0)), (3, .ref q), (4, .int i)] rfl ?_
  exact g_widen (cells + 3) (slots + 18) (by omega) (by omega) K
set_option maxRecDepth 100000 in
set_option maxHeartbeats 4000000 in
theorem lc_46 {p : Program} {l : Launch} {e : Env} {s : State} {m : MethodId} {below : List Frame} {meth : Method} {c : Code} {Z : GZ} {Y : YZ} {A : Nat → Prop} {Q : State → Prop} {cells slots b L q : Nat} {xs : Nat → Int32} {i : Int32} {a b2 : Nat → Nat} {o : OX6} {r : OX7} {g : Nat → Int64} (C : Cx p s m #[.ref b] c code 7 RL Z A) (hX : XT Y A s s.heap) (hN : XNo s) (hst : l.stackTraces = false) (hSc : va_X b L xs s s.heap) (hbl : b < s.heap.size) (hbA : ¬ A b) (hR1 : cells + 3 ≤ room_1.cells) (hR2 : slots + 18 ≤ room_1.slots) (h1 : vp_in (i + 1) L) {res : (Nat ⊕ Int32) × OX6} {res2 : Int32 × OX7} (H1 : fX6_orbit o (xs (ix (i + 1))) = some res) (H2 : fX7_orbit r (xs (ix (i + 1))) = some res2) (Hk : ∀ k, res.1 = .inl k → k = 2) (H3 : q7_thrown (mh_orbit r res2.2) = hcd [2] res.1) (H4 : ∀ v, res.1 = .inr v → res2.1 = v) (K : Gw p l e room_1 s m #[.ref b] below meth c 7 Z A Q (cells + 3) (slots + 18) (2645) [(0, .ref b), (1, .ref (a 0)), (2, .ref (b2 0)), (3, .ref q), (4, .int i)] [] (WS Z a b2 q (mg_orbit o res.2) (mh_orbit r res2.2) (outI g res.1))) : Gw p l e room_1 s m #[.ref b] below meth c 7 Z A Q (cells) (slots) (2482) [(0, .ref b), (1, .ref (a 0)), (2, .ref (b2 0)), (3, .ref q), (4, .int i)] [] (WS Z a b2 q o r g) := by
  refine g_aload_n C dL_law_2482 rfl 1 rfl ?_
  refine g_aload_n C dL_law_2483 rfl 0 rfl ?_
  refine g_iload C dL_law_2484 4 rfl ?_
  refine g_iconst C 1 dL_law_2486 (by decide) ?_
  refine g_iadd C dL_law_2487 ?_
  refine g_sld C hSc hbl hbA h1 dL_law_2488 ?_
  refine g_aload_n C dL_law_2489 rfl 3 rfl ?_
  refine gx_callL C hX hN (kL_orbit l hst Z Y a q o g (xs (ix (i + 1))) res H1 Hk) mw_5_48 mw_1_0 mw_5_47 ⟨by decide +kernel, by decide +kernel⟩ (n := 3) (by decide +kernel) 299 mw_5_46 rfl [0, 1, 2, 3, 4, 5, 6, 7, 8, 9, 10, 11, 12, 13, 14, 15, 16, 17, 18, 19, 20, 21, 22, 23, 24, 25, 26, 27, 28, 29, 30, 31, 32, 33, 34, 35, 36, 37, 38, 39, 40, 41, 42, 43, 44, 45] [46, 47, 48, 49, 50, 51, 52, 53, 54, 55, 56, 57, 58, 59, 60] [15, 16, 17, 18, 19, 20, 21, 22, 23, 24, 25, 26, 27, 28, 29, 30, 31, 32, 33, 34, 35, 36, 37, 38, 39, 40, 41, 42, 43, 44, 45, 46, 47, 48, 49, 50, 51, 52, 53, 54, 55, 56, 57, 58, 59, 60, 0, 1, 2, 3, 4, 5, 6, 7, 8, 9, 10, 11, 12, 13, 14] (wr := wX7 Z b2 r) rfl rfl (by decide) (by decide) (by decide) (WS Z a b2 q (mg_orbit o res.2) r (outI g res.1)) rfl (by decide) (Nat.le_of_ble_eq_true rfl) (Nat.le_of_ble_eq_true rfl) (Nat.le_of_ble_eq_true rfl) ⟨by omega, by omega⟩ rfl dL_law_2490 ?_
  refine g_istore C dL_law_2493 (by decide) [(5, .int (hcd [2] res.1)), (0, .ref b), (1, .ref (a 0)), (2, .ref (b2 0)), (3, .ref q), (4, .int i)] rfl ?_
  refine g_aload_n C dL_law_2495 rfl 3 rfl ?_
  refine g_aload_n C dL_law_2496 rfl 1 rfl ?_
  refine g_iload C dL_law_2497 5 rfl ?_
  refine g_iconst C 1 dL_law_2499 (by decide) ?_
  refine g_iadd C dL_law_2500 ?_
  refine g_sld C hSc hbl hbA h1 dL_law_2501 ?_
  refine g_callVi C (kX7_orbit l Z (b2 0) (b2 1) (b2 2) (b2 3) (b2 4) (b2 5) (b2 6) (b2 7) (b2 8) (b2 9) (b2 10) (b2 11) (b2 12) (b2 13) (b2 14) r (xs (ix (i + 1))) res2 H2) 0 rfl (ci := 7) rfl rfl myX7_orbit 301 mw_7_128 rfl [46, 48, 58, 59, 60] [0, 1, 2, 3, 4, 5, 6, 7, 8, 9, 10, 11, 12, 13, 14, 15, 16, 17, 18, 19, 20, 21, 22, 23, 24, 25, 26, 27, 28, 29, 30, 31, 32, 33, 34, 35, 36, 37, 38, 39, 40, 41, 42, 43, 44, 45, 47, 49, 50, 51, 52, 53, 54, 55, 56, 57] [0, 1, 2, 3, 4, 5, 6, 7, 8, 9, 10, 11, 12, 13, 14, 15, 16, 17, 18, 19, 20, 21, 22, 23, 24, 25, 26, 27, 28, 29, 30, 31, 32, 33, 34, 35, 36, 37, 38, 39, 40, 41, 42, 43, 44, 45, 56, 46, 57, 47, 48, 49, 50, 51, 52, 53, 54, 55, 58, 59, 60] (wr := ((wX6 Z a (mg_orbit o res.2) ++ [(q, .inl (zJ Z, 1, .inr (.inl (outI g res.1))))]) ++ [((b2 1), .inl (zI Z, 300, .inl (q7_buffer r))), ((b2 3), .inl (zI Z, 12, .inl (q7_made r))), ((b2 4), .inl (zI Z, 96, .inl (q7_history r))), ((b2 5), .inl (zI Z, 12, .inl (q7_saved r))), ((b2 6), .inl (zI Z, 256, .inl (q7_closed r))), ((b2 7), .inl (zI Z, 256, .inl (q7_faces r))), ((b2 8), .inl (zI Z, 256, .inl (q7_rankOf r))), ((b2 9), .inl (zI Z, 256, .inl (q7_placeOf r))), ((b2 10), .inl (zI Z, 256, .inl (q7_counted r))), ((b2 11), .inl (zI Z, 10, .inl (q7_steps r)))])) rfl rfl (by decide) (by decide) (by decide) (WS Z a b2 q (mg_orbit o res.2) (mh_orbit r res2.2) (outI g res.1)) rfl (by decide) (Nat.le_of_ble_eq_true rfl) (Nat.le_of_ble_eq_true rfl) (Nat.le_of_ble_eq_true rfl) ⟨by omega, by omega⟩ rfl dL_law_2502 ?_
  refine g_istore C dL_law_2505 (by decide) [(6, .int res2.1), (5, .int (hcd [2] res.1)), (0, .ref b), (1, .ref (a 0)), (2, .ref (b2 0)), (3, .ref q), (4, .int i)] rfl ?_
  refine g_aload_n C dL_law_2507 rfl 4 rfl ?_
  refine g_callVi C (kX7_thrown l Z (b2 0) (b2 1) (b2 2) (b2 3) (b2 4) (b2 5) (b2 6) (b2 7) (b2 8) (b2 9) (b2 10) (b2 11) (b2 12) (b2 13) (b2 14) (mh_orbit r res2.2) (q7_thrown (mh_orbit r res2.2)) rfl) 0 rfl (ci := 7) rfl rfl myX7_thrown 139 mw_5_170 rfl [46] [0, 1, 2, 3, 4, 5, 6, 7, 8, 9, 10, 11, 12, 13, 14, 15, 16, 17, 18, 19, 20, 21, 22, 23, 24, 25, 26, 27, 28, 29, 30, 31, 32, 33, 34, 35, 36, 37, 38, 39, 40, 41, 42, 43, 44, 45, 47, 48, 49, 50, 51, 52, 53, 54, 55, 56, 57, 58, 59, 60] [0, 1, 2, 3, 4, 5, 6, 7, 8, 9, 10, 11, 12, 13, 14, 15, 16, 17, 18, 19, 20, 21, 22, 23, 24, 25, 26, 27, 28, 29, 30, 31, 32, 33, 34, 35, 36, 37, 38, 39, 40, 41, 42, 43, 44, 45, 60, 46, 47, 48, 49, 50, 51, 52, 53, 54, 55, 56, 57, 58, 59] (wr := ((wX6 Z a (mg_orbit o res.2) ++ [(q, .inl (zJ Z, 1, .inr (.inl (outI g res.1))))]) ++ [((b2 1), .inl (zI Z, 300, .inl (q7_buffer (mh_orbit r res2.2)))), ((b2 2), .inl (zI Z, 12, .inl (q7_now (mh_orbit r res2.2)))), ((b2 3), .inl (zI Z, 12, .inl (q7_made (mh_orbit r res2.2)))), ((b2 4), .inl (zI Z, 96, .inl (q7_history (mh_orbit r res2.2)))), ((b2 5), .inl (zI Z, 12, .inl (q7_saved (mh_orbit r res2.2)))), ((b2 6), .inl (zI Z, 256, .inl (q7_closed (mh_orbit r res2.2)))), ((b2 7), .inl (zI Z, 256, .inl (q7_faces (mh_orbit r res2.2)))), ((b2 8), .inl (zI Z, 256, .inl (q7_rankOf (mh_orbit r res2.2)))), ((b2 9), .inl (zI Z, 256, .inl (q7_placeOf (mh_orbit r res2.2)))), ((b2 10), .inl (zI Z, 256, .inl (q7_counted (mh_orbit r res2.2)))), ((b2 11), .inl (zI Z, 10, .inl (q7_steps (mh_orbit r res2.2)))), ((b2 12), .inl (zI Z, 12, .inl (q7_onto (mh_orbit r res2.2)))), ((b2 13), .inl (zI Z, 8, .inl (q7_goes (mh_orbit r res2.2)))), ((b2 14), .inl (zI Z, 8, .inl (q7_firstImage (mh_orbit r res2.2))))])) rfl rfl (by decide) (by decide) (by decide) (WS Z a b2 q (mg_orbit o res.2) (mh_orbit r res2.2) (outI g res.1)) rfl (by decide) (Nat.le_of_ble_eq_true rfl) (Nat.le_of_ble_eq_true rfl) (Nat.le_of_ble_eq_true rfl) ⟨by omega, by omega⟩ rfl dL_law_2508 ?_
  refine g_iload C dL_law_2511 1 rfl ?_
  refine g_icmp_eq C 2518 dL_law_2513 (by decide) (fun _ => ?_) (fun z => absurd H3 z)
  refine g_iload C dL_law_2518 1 rfl ?_
  refine g_if_ne C 2535 dL_law_2520 (by decide) (fun c2 => ?_) (fun c2 => ?_)
  · skip
    refine g_goto C 2645 dL_law_2535 (by decide) ?_
    refine g_lv [2, 3, 4, 5, 6] [(0, .ref b), (1, .ref (a 0)), (2, .ref (b2 0)), (3, .ref q), (4, .int i)] rfl ?_
    exact g_widen (cells + 3) (slots + 18) (by omega) (by omega) K
  · obtain ⟨v, hv⟩ := hcd_zero [2] (by decide) c2
    refine g_aload_n C dL_law_2523 rfl 5 rfl ?_
    refine g_iconst C 0 dL_law_2524 (by decide) ?_
    refine g_lald C 45 rfl (by decide) dL_law_2525 ?_
    refine g_iload C dL_law_2526 0 rfl ?_
    refine g_i2l C dL_law_2528 ?_
    refine g_lcmp C dL_law_2529 ?_
    refine g_if_eq C 2535 dL_law_2530 (by decide) (fun _ => ?_) (fun z => absurd (by rw [hv, H4 v hv, outI_at]; exact lcmp_self _) z)
    refine g_goto C 2645 dL_law_2535 (by decide) ?_
    refine g_lv [2, 3, 4, 5, 6] [(0, .ref b), (1, .ref (a 0)), (2, .ref (b2 0)), (3, .ref q), (4, .int i)] rfl ?_
    exact g_widen (cells + 3) (slots + 18) (by omega) (by omega) K
set_option maxRecDepth 100000 in
set_option maxHeartbeats 4000000 in
theorem lc_47 {p : Program} {l : Launch} {e : Env} {s : State} {m : MethodId} {below : List Frame} {meth : Method} {c : Code} {Z : GZ} {Y : YZ} {A : Nat → Prop} {Q : State → Prop} {cells slots b L q : Nat} {xs : Nat → Int32} {i : Int32} {a b2 : Nat → Nat} {o : OX6} {r : OX7} {g : Nat → Int64} (C : Cx p s m #[.ref b] c code 7 RL Z A) (hX : XT Y A s s.heap) (hN : XNo s) (hst : l.stackTraces = false) (hSc : va_X b L xs s s.heap) (hbl : b < s.heap.size) (hbA : ¬ A b) (hR1 : cells + 3 ≤ room_1.cells) (hR2 : slots + 18 ≤ room_1.slots) {res : (Nat ⊕ Int32) × OX6} {res2 : Int32 × OX7} (H1 : fX6_isLike o = some res) (H2 : fX7_isLike r = some res2) (Hk : ∀ k, res.1 = .inl k → k = 0) (H3 : q7_thrown (mh_isLike r res2.2) = hcd [0] res.1) (H4 : ∀ v, res.1 = .inr v → res2.1 = v) (K : Gw p l e room_1 s m #[.ref b] below meth c 7 Z A Q (cells + 3) (slots + 18) (2645) [(0, .ref b), (1, .ref (a 0)), (2, .ref (b2 0)), (3, .ref q), (4, .int i)] [] (WS Z a b2 q (mg_isLike o res.2) (mh_isLike r res2.2) (outB g res.1))) : Gw p l e room_1 s m #[.ref b] below meth c 7 Z A Q (cells) (slots) (2538) [(0, .ref b), (1, .ref (a 0)), (2, .ref (b2 0)), (3, .ref q), (4, .int i)] [] (WS Z a b2 q o r g) := by
  refine g_aload_n C dL_law_2538 rfl 1 rfl ?_
  refine g_aload_n C dL_law_2539 rfl 3 rfl ?_
  refine gx_callL C hX hN (kL_isLike l hst Z Y a q o g res H1 Hk) mw_5_59 mw_1_0 mw_5_58 ⟨by decide +kernel, by decide +kernel⟩ (n := 2) (by decide +kernel) 302 mw_5_57 rfl [0, 1, 2, 3, 4, 5, 6, 7, 8, 9, 10, 11, 12, 13, 14, 15, 16, 17, 18, 19, 20, 21, 22, 23, 24, 25, 26, 27, 28, 29, 30, 31, 32, 33, 34, 35, 36, 37, 38, 39, 40, 41, 42, 43, 44, 45] [46, 47, 48, 49, 50, 51, 52, 53, 54, 55, 56, 57, 58, 59, 60] [15, 16, 17, 18, 19, 20, 21, 22, 23, 24, 25, 26, 27, 28, 29, 30, 31, 32, 33, 34, 35, 36, 37, 38, 39, 40, 41, 42, 43, 44, 45, 46, 47, 48, 49, 50, 51, 52, 53, 54, 55, 56, 57, 58, 59, 60, 0, 1, 2, 3, 4, 5, 6, 7, 8, 9, 10, 11, 12, 13, 14] (wr := wX7 Z b2 r) rfl rfl (by decide) (by decide) (by decide) (WS Z a b2 q (mg_isLike o res.2) r (outB g res.1)) rfl (by decide) (Nat.le_of_ble_eq_true rfl) (Nat.le_of_ble_eq_true rfl) (Nat.le_of_ble_eq_true rfl) ⟨by omega, by omega⟩ rfl dL_law_2540 ?_
  refine g_istore C dL_law_2543 (by decide) [(5, .int (hcd [0] res.1)), (0, .ref b), (1, .ref (a 0)), (2, .ref (b2 0)), (3, .ref q), (4, .int i)] rfl ?_
  refine g_aload_n C dL_law_2545 rfl 3 rfl ?_
  refine g_callVi C (kX7_isLike l Z (b2 0) (b2 1) (b2 2) (b2 3) (b2 4) (b2 5) (b2 6) (b2 7) (b2 8) (b2 9) (b2 10) (b2 11) (b2 12) (b2 13) (b2 14) r res2 H2) 0 rfl (ci := 7) rfl rfl myX7_isLike 304 mw_7_132 rfl [46, 48, 51, 58, 59, 60] [0, 1, 2, 3, 4, 5, 6, 7, 8, 9, 10, 11, 12, 13, 14, 15, 16, 17, 18, 19, 20, 21, 22, 23, 24, 25, 26, 27, 28, 29, 30, 31, 32, 33, 34, 35, 36, 37, 38, 39, 40, 41, 42, 43, 44, 45, 47, 49, 50, 52, 53, 54, 55, 56, 57] [0, 1, 2, 3, 4, 5, 6, 7, 8, 9, 10, 11, 12, 13, 14, 15, 16, 17, 18, 19, 20, 21, 22, 23, 24, 25, 26, 27, 28, 29, 30, 31, 32, 33, 34, 35, 36, 37, 38, 39, 40, 41, 42, 43, 44, 45, 55, 46, 56, 47, 48, 57, 49, 50, 51, 52, 53, 54, 58, 59, 60] (wr := ((wX6 Z a (mg_isLike o res.2) ++ [(q, .inl (zJ Z, 1, .inr (.inl (outB g res.1))))]) ++ [((b2 1), .inl (zI Z, 300, .inl (q7_buffer r))), ((b2 3), .inl (zI Z, 12, .inl (q7_made r))), ((b2 4), .inl (zI Z, 96, .inl (q7_history r))), ((b2 6), .inl (zI Z, 256, .inl (q7_closed r))), ((b2 7), .inl (zI Z, 256, .inl (q7_faces r))), ((b2 8), .inl (zI Z, 256, .inl (q7_rankOf r))), ((b2 9), .inl (zI Z, 256, .inl (q7_placeOf r))), ((b2 10), .inl (zI Z, 256, .inl (q7_counted r))), ((b2 11), .inl (zI Z, 10, .inl (q7_steps r)))])) rfl rfl (by decide) (by decide) (by decide) (WS Z a b2 q (mg_isLike o res.2) (mh_isLike r res2.2) (outB g res.1)) rfl (by decide) (Nat.le_of_ble_eq_true rfl) (Nat.le_of_ble_eq_true rfl) (Nat.le_of_ble_eq_true rfl) ⟨by omega, by omega⟩ rfl dL_law_2546 ?_
  refine g_istore C dL_law_2549 (by decide) [(6, .int res2.1), (5, .int (hcd [0] res.1)), (0, .ref b), (1, .ref (a 0)), (2, .ref (b2 0)), (3, .ref q), (4, .int i)] rfl ?_
  refine g_aload_n C dL_law_2551 rfl 4 rfl ?_
  refine g_callVi C (kX7_thrown l Z (b2 0) (b2 1) (b2 2) (b2 3) (b2 4) (b2 5) (b2 6) (b2 7) (b2 8) (b2 9) (b2 10) (b2 11) (b2 12) (b2 13) (b2 14) (mh_isLike r res2.2) (q7_thrown (mh_isLike r res2.2)) rfl) 0 rfl (ci := 7) rfl rfl myX7_thrown 139 mw_5_170 rfl [46] [0, 1, 2, 3, 4, 5, 6, 7, 8, 9, 10, 11, 12, 13, 14, 15, 16, 17, 18, 19, 20, 21, 22, 23, 24, 25, 26, 27, 28, 29, 30, 31, 32, 33, 34, 35, 36, 37, 38, 39, 40, 41, 42, 43, 44, 45, 47, 48, 49, 50, 51, 52, 53, 54, 55, 56, 57, 58, 59, 60] [0, 1, 2, 3, 4, 5, 6, 7, 8, 9, 10, 11, 12, 13, 14, 15, 16, 17, 18, 19, 20, 21, 22, 23, 24, 25, 26, 27, 28, 29, 30, 31, 32, 33, 34, 35, 36, 37, 38, 39, 40, 41, 42, 43, 44, 45, 60, 46, 47, 48, 49, 50, 51, 52, 53, 54, 55, 56, 57, 58, 59] (wr := ((wX6 Z a (mg_isLike o res.2) ++ [(q, .inl (zJ Z, 1, .inr (.inl (outB g res.1))))]) ++ [((b2 1), .inl (zI Z, 300, .inl (q7_buffer (mh_isLike r res2.2)))), ((b2 2), .inl (zI Z, 12, .inl (q7_now (mh_isLike r res2.2)))), ((b2 3), .inl (zI Z, 12, .inl (q7_made (mh_isLike r res2.2)))), ((b2 4), .inl (zI Z, 96, .inl (q7_history (mh_isLike r res2.2)))), ((b2 5), .inl (zI Z, 12, .inl (q7_saved (mh_isLike r res2.2)))), ((b2 6), .inl (zI Z, 256, .inl (q7_closed (mh_isLike r res2.2)))), ((b2 7), .inl (zI Z, 256, .inl (q7_faces (mh_isLike r res2.2)))), ((b2 8), .inl (zI Z, 256, .inl (q7_rankOf (mh_isLike r res2.2)))), ((b2 9), .inl (zI Z, 256, .inl (q7_placeOf (mh_isLike r res2.2)))), ((b2 10), .inl (zI Z, 256, .inl (q7_counted (mh_isLike r res2.2)))), ((b2 11), .inl (zI Z, 10, .inl (q7_steps (mh_isLike r res2.2)))), ((b2 12), .inl (zI Z, 12, .inl (q7_onto (mh_isLike r res2.2)))), ((b2 13), .inl (zI Z, 8, .inl (q7_goes (mh_isLike r res2.2)))), ((b2 14), .inl (zI Z, 8, .inl (q7_firstImage (mh_isLike r res2.2))))])) rfl rfl (by decide) (by decide) (by decide) (WS Z a b2 q (mg_isLike o res.2) (mh_isLike r res2.2) (outB g res.1)) rfl (by decide) (Nat.le_of_ble_eq_true rfl) (Nat.le_of_ble_eq_true rfl) (Nat.le_of_ble_eq_true rfl) ⟨by omega, by omega⟩ rfl dL_law_2552 ?_
  refine g_iload C dL_law_2555 1 rfl ?_
  refine g_icmp_eq C 2562 dL_law_2557 (by decide) (fun _ => ?_) (fun z => absurd H3 z)
  refine g_iload C dL_law_2562 1 rfl ?_
  refine g_if_ne C 2586 dL_law_2564 (by decide) (fun c2 => ?_) (fun c2 => ?_)
  · skip
    refine g_goto C 2645 dL_law_2586 (by decide) ?_
    refine g_lv [2, 3, 4, 5, 6] [(0, .ref b), (1, .ref (a 0)), (2, .ref (b2 0)), (3, .ref q), (4, .int i)] rfl ?_
    exact g_widen (cells + 3) (slots + 18) (by omega) (by omega) K
  · obtain ⟨v, hv⟩ := hcd_zero [0] (by decide) c2
    refine g_aload_n C dL_law_2567 rfl 5 rfl ?_
    refine g_iconst C 0 dL_law_2568 (by decide) ?_
    refine g_lald C 45 rfl (by decide) dL_law_2569 ?_
    refine g_iload C dL_law_2570 0 rfl ?_
    refine g_if_eq C 2579 dL_law_2572 (by decide) (fun c3 => ?_) (fun c3 => ?_)
    · have c4 : v = 0 := (H4 v hv) ▸ c3
      refine g_lconst C 0 dL_law_2579 (by decide) ?_
      refine g_lcmp C dL_law_2580 ?_
      refine g_if_eq C 2586 dL_law_2581 (by decide) (fun _ => ?_) (fun z => absurd (by rw [hv, outB_at, if_pos c4]; exact lcmp_self _) z)
      refine g_goto C 2645 dL_law_2586 (by decide) ?_
      refine g_lv [2, 3, 4, 5, 6] [(0, .ref b), (1, .ref (a 0)), (2, .ref (b2 0)), (3, .ref q), (4, .int i)] rfl ?_
      exact g_widen (cells + 3) (slots + 18) (by omega) (by omega) K
    · have c4 : ¬ v = 0 := (H4 v hv) ▸ c3
      refine g_lconst C 1 dL_law_2575 (by decide) ?_
      refine g_goto C 2580 dL_law_2576 (by decide) ?_
      refine g_lcmp C dL_law_2580 ?_
      refine g_if_eq C 2586 dL_law_2581 (by decide) (fun _ => ?_) (fun z => absurd (by rw [hv, outB_at, if_neg c4]; exact lcmp_self _) z)
      refine g_goto C 2645 dL_law_2586 (by decide) ?_
      refine g_lv [2, 3, 4, 5, 6] [(0, .ref b), (1, .ref (a 0)), (2, .ref (b2 0)), (3, .ref q), (4, .int i)] rfl ?_
      exact g_widen (cells + 3) (slots + 18) (by omega) (by omega) K
set_option maxRecDepth 100000 in
set_option maxHeartbeats 4000000 in
theorem lc_48 {p : Program} {l : Launch} {e : Env} {s : State} {m : MethodId} {below : List Frame} {meth : Method} {c : Code} {Z : GZ} {Y : YZ} {A : Nat → Prop} {Q : State → Prop} {cells slots b L q : Nat} {xs : Nat → Int32} {i : Int32} {a b2 : Nat → Nat} {o : OX6} {r : OX7} {g : Nat → Int64} (C : Cx p s m #[.ref b] c code 7 RL Z A) (hX : XT Y A s s.heap) (hN : XNo s) (hst : l.stackTraces = false) (hSc : va_X b L xs s s.heap) (hbl : b < s.heap.size) (hbA : ¬ A b) (hR1 : cells + 3 ≤ room_1.cells) (hR2 : slots + 18 ≤ room_1.slots) (h1 : vp_in (i + 1) L) {res : (Nat ⊕ Int32) × OX6} {res2 : Int32 × OX7} (H1 : fX6_image o (xs (ix (i + 1))) = some res) (H2 : fX7_image r (xs (ix (i + 1))) = some res2) (Hk : ∀ k, res.1 = .inl k → k = 2 ∨ k = 0 ∨ k = 3) (H3 : q7_thrown (mh_image r res2.2) = hcd [2, 0, 3] res.1) (H4 : ∀ v, res.1 = .inr v → res2.1 = v) (K : Gw p l e room_1 s m #[.ref b] below meth c 7 Z A Q (cells + 3) (slots + 18) (2645) [(0, .ref b), (1, .ref (a 0)), (2, .ref (b2 0)), (3, .ref q), (4, .int i)] [] (WS Z a b2 q (mg_image o res.2) (mh_image r res2.2) (outI g res.1))) : Gw p l e room_1 s m #[.ref b] below meth c 7 Z A Q (cells) (slots) (2589) [(0, .ref b), (1, .ref (a 0)), (2, .ref (b2 0)), (3, .ref q), (4, .int i)] [] (WS Z a b2 q o r g) := by
  refine g_aload_n C dL_law_2589 rfl 1 rfl ?_
  refine g_aload_n C dL_law_2590 rfl 0 rfl ?_
  refine g_iload C dL_law_2591 4 rfl ?_
  refine g_iconst C 1 dL_law_2593 (by decide) ?_
  refine g_iadd C dL_law_2594 ?_
  refine g_sld C hSc hbl hbA h1 dL_law_2595 ?_
  refine g_aload_n C dL_law_2596 rfl 3 rfl ?_
  refine gx_callL C hX hN (kL_image l hst Z Y a q o g (xs (ix (i + 1))) res H1 Hk) mw_5_74 mw_1_0 mw_5_73 ⟨by decide +kernel, by decide +kernel⟩ (n := 3) (by decide +kernel) 305 mw_5_72 rfl [0, 1, 2, 3, 4, 5, 6, 7, 8, 9, 10, 11, 12, 13, 14, 15, 16, 17, 18, 19, 20, 21, 22, 23, 24, 25, 26, 27, 28, 29, 30, 31, 32, 33, 34, 35, 36, 37, 38, 39, 40, 41, 42, 43, 44, 45] [46, 47, 48, 49, 50, 51, 52, 53, 54, 55, 56, 57, 58, 59, 60] [15, 16, 17, 18, 19, 20, 21, 22, 23, 24, 25, 26, 27, 28, 29, 30, 31, 32, 33, 34, 35, 36, 37, 38, 39, 40, 41, 42, 43, 44, 45, 46, 47, 48, 49, 50, 51, 52, 53, 54, 55, 56, 57, 58, 59, 60, 0, 1, 2, 3, 4, 5, 6, 7, 8, 9, 10, 11, 12, 13, 14] (wr := wX7 Z b2 r) rfl rfl (by decide) (by decide) (by decide) (WS Z a b2 q (mg_image o res.2) r (outI g res.1)) rfl (by decide) (Nat.le_of_ble_eq_true rfl) (Nat.le_of_ble_eq_true rfl) (Nat.le_of_ble_eq_true rfl) ⟨by omega, by omega⟩ rfl dL_law_2597 ?_
  refine g_istore C dL_law_2600 (by decide) [(5, .int (hcd [2, 0, 3] res.1)), (0, .ref b), (1, .ref (a 0)), (2, .ref (b2 0)), (3, .ref q), (4, .int i)] rfl ?_
  refine g_aload_n C dL_law_2602 rfl 3 rfl ?_
  refine g_aload_n C dL_law_2603 rfl 1 rfl ?_
  refine g_iload C dL_law_2604 5 rfl ?_
  refine g_iconst C 1 dL_law_2606 (by decide) ?_
  refine g_iadd C dL_law_2607 ?_
  refine g_sld C hSc hbl hbA h1 dL_law_2608 ?_
  refine g_callVi C (kX7_image l Z (b2 0) (b2 1) (b2 2) (b2 3) (b2 4) (b2 5) (b2 6) (b2 7) (b2 8) (b2 9) (b2 10) (b2 11) (b2 12) (b2 13) (b2 14) r (xs (ix (i + 1))) res2 H2) 0 rfl (ci := 7) rfl rfl myX7_image 307 mw_7_136 rfl [46, 48, 51, 58, 59, 60] [0, 1, 2, 3, 4, 5, 6, 7, 8, 9, 10, 11, 12, 13, 14, 15, 16, 17, 18, 19, 20, 21, 22, 23, 24, 25, 26, 27, 28, 29, 30, 31, 32, 33, 34, 35, 36, 37, 38, 39, 40, 41, 42, 43, 44, 45, 47, 49, 50, 52, 53, 54, 55, 56, 57] [0, 1, 2, 3, 4, 5, 6, 7, 8, 9, 10, 11, 12, 13, 14, 15, 16, 17, 18, 19, 20, 21, 22, 23, 24, 25, 26, 27, 28, 29, 30, 31, 32, 33, 34, 35, 36, 37, 38, 39, 40, 41, 42, 43, 44, 45, 55, 46, 56, 47, 48, 57, 49, 50, 51, 52, 53, 54, 58, 59, 60] (wr := ((wX6 Z a (mg_image o res.2) ++ [(q, .inl (zJ Z, 1, .inr (.inl (outI g res.1))))]) ++ [((b2 1), .inl (zI Z, 300, .inl (q7_buffer r))), ((b2 3), .inl (zI Z, 12, .inl (q7_made r))), ((b2 4), .inl (zI Z, 96, .inl (q7_history r))), ((b2 6), .inl (zI Z, 256, .inl (q7_closed r))), ((b2 7), .inl (zI Z, 256, .inl (q7_faces r))), ((b2 8), .inl (zI Z, 256, .inl (q7_rankOf r))), ((b2 9), .inl (zI Z, 256, .inl (q7_placeOf r))), ((b2 10), .inl (zI Z, 256, .inl (q7_counted r))), ((b2 11), .inl (zI Z, 10, .inl (q7_steps r)))])) rfl rfl (by decide) (by decide) (by decide) (WS Z a b2 q (mg_image o res.2) (mh_image r res2.2) (outI g res.1)) rfl (by decide) (Nat.le_of_ble_eq_true rfl) (Nat.le_of_ble_eq_true rfl) (Nat.le_of_ble_eq_true rfl) ⟨by omega, by omega⟩ rfl dL_law_2609 ?_
  refine g_istore C dL_law_2612 (by decide) [(6, .int res2.1), (5, .int (hcd [2, 0, 3] res.1)), (0, .ref b), (1, .ref (a 0)), (2, .ref (b2 0)), (3, .ref q), (4, .int i)] rfl ?_
  refine g_aload_n C dL_law_2614 rfl 4 rfl ?_
  refine g_callVi C (kX7_thrown l Z (b2 0) (b2 1) (b2 2) (b2 3) (b2 4) (b2 5) (b2 6) (b2 7) (b2 8) (b2 9) (b2 10) (b2 11) (b2 12) (b2 13) (b2 14) (mh_image r res2.2) (q7_thrown (mh_image r res2.2)) rfl) 0 rfl (ci := 7) rfl rfl myX7_thrown 139 mw_5_170 rfl [46] [0, 1, 2, 3, 4, 5, 6, 7, 8, 9, 10, 11, 12, 13, 14, 15, 16, 17, 18, 19, 20, 21, 22, 23, 24, 25, 26, 27, 28, 29, 30, 31, 32, 33, 34, 35, 36, 37, 38, 39, 40, 41, 42, 43, 44, 45, 47, 48, 49, 50, 51, 52, 53, 54, 55, 56, 57, 58, 59, 60] [0, 1, 2, 3, 4, 5, 6, 7, 8, 9, 10, 11, 12, 13, 14, 15, 16, 17, 18, 19, 20, 21, 22, 23, 24, 25, 26, 27, 28, 29, 30, 31, 32, 33, 34, 35, 36, 37, 38, 39, 40, 41, 42, 43, 44, 45, 60, 46, 47, 48, 49, 50, 51, 52, 53, 54, 55, 56, 57, 58, 59] (wr := ((wX6 Z a (mg_image o res.2) ++ [(q, .inl (zJ Z, 1, .inr (.inl (outI g res.1))))]) ++ [((b2 1), .inl (zI Z, 300, .inl (q7_buffer (mh_image r res2.2)))), ((b2 2), .inl (zI Z, 12, .inl (q7_now (mh_image r res2.2)))), ((b2 3), .inl (zI Z, 12, .inl (q7_made (mh_image r res2.2)))), ((b2 4), .inl (zI Z, 96, .inl (q7_history (mh_image r res2.2)))), ((b2 5), .inl (zI Z, 12, .inl (q7_saved (mh_image r res2.2)))), ((b2 6), .inl (zI Z, 256, .inl (q7_closed (mh_image r res2.2)))), ((b2 7), .inl (zI Z, 256, .inl (q7_faces (mh_image r res2.2)))), ((b2 8), .inl (zI Z, 256, .inl (q7_rankOf (mh_image r res2.2)))), ((b2 9), .inl (zI Z, 256, .inl (q7_placeOf (mh_image r res2.2)))), ((b2 10), .inl (zI Z, 256, .inl (q7_counted (mh_image r res2.2)))), ((b2 11), .inl (zI Z, 10, .inl (q7_steps (mh_image r res2.2)))), ((b2 12), .inl (zI Z, 12, .inl (q7_onto (mh_image r res2.2)))), ((b2 13), .inl (zI Z, 8, .inl (q7_goes (mh_image r res2.2)))), ((b2 14), .inl (zI Z, 8, .inl (q7_firstImage (mh_image r res2.2))))])) rfl rfl (by decide) (by decide) (by decide) (WS Z a b2 q (mg_image o res.2) (mh_image r res2.2) (outI g res.1)) rfl (by decide) (Nat.le_of_ble_eq_true rfl) (Nat.le_of_ble_eq_true rfl) (Nat.le_of_ble_eq_true rfl) ⟨by omega, by omega⟩ rfl dL_law_2615 ?_
  refine g_iload C dL_law_2618 1 rfl ?_
  refine g_icmp_eq C 2625 dL_law_2620 (by decide) (fun _ => ?_) (fun z => absurd H3 z)
  refine g_iload C dL_law_2625 1 rfl ?_
  refine g_if_ne C 2642 dL_law_2627 (by decide) (fun c2 => ?_) (fun c2 => ?_)
  · skip
    refine g_goto C 2645 dL_law_2642 (by decide) ?_
    refine g_lv [2, 3, 4, 5, 6] [(0, .ref b), (1, .ref (a 0)), (2, .ref (b2 0)), (3, .ref q), (4, .int i)] rfl ?_
    exact g_widen (cells + 3) (slots + 18) (by omega) (by omega) K
  · obtain ⟨v, hv⟩ := hcd_zero [2, 0, 3] (by decide) c2
    refine g_aload_n C dL_law_2630 rfl 5 rfl ?_
    refine g_iconst C 0 dL_law_2631 (by decide) ?_
    refine g_lald C 45 rfl (by decide) dL_law_2632 ?_
    refine g_iload C dL_law_2633 0 rfl ?_
    refine g_i2l C dL_law_2635 ?_
    refine g_lcmp C dL_law_2636 ?_
    refine g_if_eq C 2642 dL_law_2637 (by decide) (fun _ => ?_) (fun z => absurd (by rw [hv, H4 v hv, outI_at]; exact lcmp_self _) z)
    refine g_goto C 2645 dL_law_2642 (by decide) ?_
    refine g_lv [2, 3, 4, 5, 6] [(0, .ref b), (1, .ref (a 0)), (2, .ref (b2 0)), (3, .ref q), (4, .int i)] rfl ?_
    exact g_widen (cells + 3) (slots + 18) (by omega) (by omega) K

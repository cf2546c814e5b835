def fX4_sign_L16 (o0 : OX2) (v1 : Int32 × (Nat → Int64)) (v5 : Int32 × (Nat → Int64)) : Option ((Int32 × (Nat → Int64)) ⊕ ((Int32 × (Nat → Int64)) ⊕ ((Nat → Int64)))) :=
  if (q2_facets o0) ≤ v5.1 then (ex (some (.inl ((v1.1 + 1), v5.2))))
  else ((fX2_has o0 v5.1 v1.1).bind fun r8 =>
  (if r8 = 0 then (some (.inl ((v5.1 + 1), v5.2)))
  else (ck (okI v1.1 8) (ck (okI v5.1 10) ((fJ6_bitCount_0f7a4 ((q2_sets o0) (ix v5.1))).bind fun r13 =>
  (ck (okI v1.1 8) (some (.inl ((v5.1 + 1), (vp_updL v5.2 (ix v1.1) ((v5.2 (ix v1.1)) + (jlshl 1 (4 * r13)))))))))))))
def fX4_sign_L2 (o0 : OX2) (v1 : Int32 × (Nat → Int64)) : Option ((Int32 × (Nat → Int64)) ⊕ ((Nat → Int64))) :=
  if (q2_points o0) ≤ v1.1 then (ex (some v1.2))
  else (ck (okI v1.1 8) (lp (fX4_sign_L16 o0 v1) lpN (0, (vp_updL v1.2 (ix v1.1) 0))))
def fX4_sign (o0 : OX2) (o1 : Nat → Int64) : Option ((Nat → Int64)) :=
  lp (fX4_sign_L2 o0) lpN (0, o1)
theorem myX4_sign : MYs yX4_sign cX4_sign 4 none 2 := ⟨mw_3_34, mw_3_35, mw_1_7, ⟨by decide +kernel, by decide +kernel⟩, by decide +kernel⟩
set_option maxRecDepth 100000 in
set_option maxHeartbeats 4000000 in
theorem kX4_sign (l : Launch) (Z : GZ) (a0 a0_sets a1 : Nat) (o0 : OX2) (o1 : Nat → Int64) (res : (Nat → Int64)) (h : fX4_sign o0 o1 = some res) : MV l Z yX4_sign cX4_sign 4 1 22 [.ref a0, .ref a1] [(a0, .inr (2, [.ref a0_sets, .int (q2_points o0), .int (q2_facets o0)])), (a0_sets, .inl (zI Z, 10, .inl (q2_sets o0))), (a1, .inl (zJ Z, 8, .inr (.inl o1)))] [(a0, .inr (2, [.ref a0_sets, .int (q2_points o0), .int (q2_facets o0)])), (a0_sets, .inl (zI Z, 10, .inl (q2_sets o0))), (a1, .inl (zJ Z, 8, .inr (.inl res)))] := by
  refine MV_of (by decide +kernel) (Nat.le_of_ble_eq_true rfl) (fun {p e s m args below meth c} A R hR Q hQ C hr hlk => ?_)
  unfold fX4_sign at h
  refine g_lv [0, 1] [(0, .ref a0), (1, .ref a1)] rfl ?_
  refine g_iconst C 0 dX4_sign_0 (by decide) ?_
  refine g_istore_n C dX4_sign_1 rfl (by decide) [(2, .int 0), (0, .ref a0), (1, .ref a1)] rfl ?_
  refine g_lv [1, 2, 0] [(0, .ref a0), (1, .ref a1), (2, .int 0)] rfl ?_
  refine g_loop (lvf := fun v1 => [(0, .ref a0), (1, .ref a1), (2, .int v1.1)]) (wsf := fun v1 => [(a0, .inr (2, [.ref a0_sets, .int (q2_points o0), .int (q2_facets o0)])), (a0_sets, .inl (zI Z, 10, .inl (q2_sets o0))), (a1, .inl (zJ Z, 8, .inr (.inl v1.2)))]) h (fun v1 y1 h hk1 hx1 => ?_)
  refine g_eq (lv1 := [(0, .ref a0), (1, .ref a1), (2, .int v1.1)]) (st1 := []) (ws1 := [(a0, .inr (2, [.ref a0_sets, .int (q2_points o0), .int (q2_facets o0)])), (a0_sets, .inl (zI Z, 10, .inl (q2_sets o0))), (a1, .inl (zJ Z, 8, .inr (.inl v1.2)))]) rfl rfl rfl rfl ?_
  unfold fX4_sign_L2 at h
  refine g_iload_n C dX4_sign_2 rfl 2 rfl ?_
  refine g_aload_n C dX4_sign_3 rfl 0 rfl ?_
  refine g_get C 2 41 gin2 0 rfl rfl 1 (by decide) mw_1_76 rfl rfl dX4_sign_4 ?_
  refine g_icmp_ge C 64 dX4_sign_7 (by decide) (fun c2 => ?_) (fun c2 => ?_)
  · replace h := it_t c2 h
    obtain ⟨r3, h, hy⟩ := ex_of h
    rw [hx1 r3 hy] at h
    obtain rfl := Option.some.inj h
    subst hQ
    exact g_vret C hr hlk dX4_sign_64 [0, 1, 2] rfl (by decide)
  · replace h := it_f c2 h
    refine g_aload_n C dX4_sign_10 rfl 1 rfl ?_
    refine g_iload_n C dX4_sign_11 rfl 2 rfl ?_
    refine g_lconst C 0 dX4_sign_12 (by decide) ?_
    obtain ⟨hi4, h⟩ := ck_of h
    refine g_last C 2 rfl hi4 [(a0, .inr (2, [.ref a0_sets, .int (q2_points o0), .int (q2_facets o0)])), (a0_sets, .inl (zI Z, 10, .inl (q2_sets o0))), (a1, .inl (zJ Z, 8, .inr (.inl (vp_updL v1.2 (ix v1.1) 0))))] rfl dX4_sign_13 ?_
    refine g_iconst C 0 dX4_sign_14 (by decide) ?_
    refine g_istore_n C dX4_sign_15 rfl (by decide) [(3, .int 0), (0, .ref a0), (1, .ref a1), (2, .int v1.1)] rfl ?_
    refine g_lv [1, 2, 3, 0] [(0, .ref a0), (1, .ref a1), (2, .int v1.1), (3, .int 0)] rfl ?_
    refine g_loop (lvf := fun v5 => [(0, .ref a0), (1, .ref a1), (2, .int v1.1), (3, .int v5.1)]) (wsf := fun v5 => [(a0, .inr (2, [.ref a0_sets, .int (q2_points o0), .int (q2_facets o0)])), (a0_sets, .inl (zI Z, 10, .inl (q2_sets o0))), (a1, .inl (zJ Z, 8, .inr (.inl v5.2)))]) h (fun v5 y2 h hk2 hx2 => ?_)
    refine g_eq (lv1 := [(0, .ref a0), (1, .ref a1), (2, .int v1.1), (3, .int v5.1)]) (st1 := []) (ws1 := [(a0, .inr (2, [.ref a0_sets, .int (q2_points o0), .int (q2_facets o0)])), (a0_sets, .inl (zI Z, 10, .inl (q2_sets o0))), (a1, .inl (zJ Z, 8, .inr (.inl v5.2)))]) rfl rfl rfl rfl ?_
    unfold fX4_sign_L16 at h
    refine g_iload_n C dX4_sign_16 rfl 3 rfl ?_
    refine g_aload_n C dX4_sign_17 rfl 0 rfl ?_
    refine g_get C 2 73 gin2 0 rfl rfl 2 (by decide) mw_1_83 rfl rfl dX4_sign_18 ?_
    refine g_icmp_ge C 58 dX4_sign_21 (by decide) (fun c6 => ?_) (fun c6 => ?_)
    · replace h := it_t c6 h
      obtain ⟨r7, h, hy⟩ := ex_of h
      rw [hx2 r7 hy] at h
      refine g_iinc C (v1.1 + 1) dX4_sign_58 2 rfl rfl (by decide) [(2, .int (v1.1 + 1)), (0, .ref a0), (1, .ref a1), (3, .int v5.1)] rfl ?_
      refine g_goto C 2 dX4_sign_61 (by decide) ?_
      refine g_lv [1, 2, 0] [(0, .ref a0), (1, .ref a1), (2, .int (v1.1 + 1))] rfl ?_
      exact hk1 ((v1.1 + 1), v5.2) (Option.some.inj h).symm
    · replace h := it_f c6 h
      refine g_aload_n C dX4_sign_24 rfl 0 rfl ?_
      refine g_iload_n C dX4_sign_25 rfl 3 rfl ?_
      refine g_iload_n C dX4_sign_26 rfl 2 rfl ?_
      obtain ⟨r8, hr9, h⟩ := bd_of h
      refine g_callVi C (kX2_has l Z a0 a0_sets o0 v5.1 v1.1 r8 hr9) 0 rfl (ci := 2) rfl rfl myX2_has 76 mw_3_36 rfl [0, 1] [2] [1, 2, 0] (wr := [(a1, .inl (zJ Z, 8, .inr (.inl v5.2)))]) rfl rfl (by decide) (by decide) (by decide) [(a0, .inr (2, [.ref a0_sets, .int (q2_points o0), .int (q2_facets o0)])), (a0_sets, .inl (zI Z, 10, .inl (q2_sets o0))), (a1, .inl (zJ Z, 8, .inr (.inl v5.2)))] rfl (by decide) (Nat.le_of_ble_eq_true rfl) (by rw [hR]; exact Nat.le_of_ble_eq_true rfl) (by rw [hR]; exact Nat.le_of_ble_eq_true rfl) ⟨by rw [hR]; exact Nat.le_of_ble_eq_true rfl, by rw [hR]; exact Nat.le_of_ble_eq_true rfl⟩ rfl dX4_sign_27 ?_
      refine g_if_eq C 52 dX4_sign_30 (by decide) (fun c10 => ?_) (fun c10 => ?_)
      · replace h := it_t c10 h
        refine g_iinc C (v5.1 + 1) dX4_sign_52 3 rfl rfl (by decide) [(3, .int (v5.1 + 1)), (0, .ref a0), (1, .ref a1), (2, .int v1.1)] rfl ?_
        refine g_goto C 16 dX4_sign_55 (by decide) ?_
        refine g_lv [1, 2, 3, 0] [(0, .ref a0), (1, .ref a1), (2, .int v1.1), (3, .int (v5.1 + 1))] rfl ?_
        exact hk2 ((v5.1 + 1), v5.2) (Option.some.inj h).symm
      · replace h := it_f c10 h
        refine g_aload_n C dX4_sign_33 rfl 1 rfl ?_
        refine g_iload_n C dX4_sign_34 rfl 2 rfl ?_
        refine g_dup2 C dX4_sign_35 rfl rfl ?_
        obtain ⟨hi11, h⟩ := ck_of h
        refine g_lald C 2 rfl hi11 dX4_sign_36 ?_
        refine g_lconst C 1 dX4_sign_37 (by decide) ?_
        refine g_iconst C 4 dX4_sign_38 (by decide) ?_
        refine g_aload_n C dX4_sign_39 rfl 0 rfl ?_
        refine g_get C 2 80 gin2 0 rfl rfl 0 (by decide) mw_1_71 rfl rfl dX4_sign_40 ?_
        refine g_iload_n C dX4_sign_43 rfl 3 rfl ?_
        obtain ⟨hi12, h⟩ := ck_of h
        refine g_iald C 1 rfl hi12 dX4_sign_44 ?_
        obtain ⟨r13, hr14, h⟩ := bd_of h
        refine g_callSi C (kJ6_bitCount_0f7a4 l Z ((q2_sets o0) (ix v5.1)) r13 hr14) myJ6_bitCount_0f7a4 59 mw_3_40 rfl [] [0, 1, 2] [0, 1, 2] (wr := [(a0, .inr (2, [.ref a0_sets, .int (q2_points o0), .int (q2_facets o0)])), (a0_sets, .inl (zI Z, 10, .inl (q2_sets o0))), (a1, .inl (zJ Z, 8, .inr (.inl v5.2)))]) rfl rfl (by decide) (by decide) (by decide) [(a0, .inr (2, [.ref a0_sets, .int (q2_points o0), .int (q2_facets o0)])), (a0_sets, .inl (zI Z, 10, .inl (q2_sets o0))), (a1, .inl (zJ Z, 8, .inr (.inl v5.2)))] rfl (by decide) (Nat.le_of_ble_eq_true rfl) (by rw [hR]; exact Nat.le_of_ble_eq_true rfl) (by rw [hR]; exact Nat.le_of_ble_eq_true rfl) ⟨by rw [hR]; exact Nat.le_of_ble_eq_true rfl, by rw [hR]; exact Nat.le_of_ble_eq_true rfl⟩ rfl dX4_sign_45 ?_
        refine g_imul C dX4_sign_48 ?_
        refine g_lshl C dX4_sign_49 ?_
        refine g_ladd C dX4_sign_50 ?_
        obtain ⟨hi15, h⟩ := ck_of h
        refine g_last C 2 rfl hi15 [(a0, .inr (2, [.ref a0_sets, .int (q2_points o0), .int (q2_facets o0)])), (a0_sets, .inl (zI Z, 10, .inl (q2_sets o0))), (a1, .inl (zJ Z, 8, .inr (.inl (vp_updL v5.2 (ix v1.1) ((v5.2 (ix v1.1)) + (jlshl 1 (4 * r13)))))))] rfl dX4_sign_51 ?_
        refine g_iinc C (v5.1 + 1) dX4_sign_52 3 rfl rfl (by decide) [(3, .int (v5.1 + 1)), (0, .ref a0), (1, .ref a1), (2, .int v1.1)] rfl ?_
        refine g_goto C 16 dX4_sign_55 (by decide) ?_
        refine g_lv [1, 2, 3, 0] [(0, .ref a0), (1, .ref a1), (2, .int v1.1), (3, .int (v5.1 + 1))] rfl ?_
        exact hk2 ((v5.1 + 1), (vp_updL v5.2 (ix v1.1) ((v5.2 (ix v1.1)) + (jlshl 1 (4 * r13))))) (Option.some.inj h).symm
def fX4_alike_L6 (p0 : Int64) (o1 : Nat → Int64) (p2 : Int32) (v1 : Int32 × Int32) : Option ((Int32 × Int32) ⊕ (Int32)) :=
  if p2 ≤ v1.2 then (ex (some v1.1))
  else (ck (okI v1.2 8) (if (jlcmp (o1 (ix v1.2)) p0) = 0 then (some (.inl ((v1.1 ||| (jshl 1 v1.2)), (v1.2 + 1))))
  else (some (.inl (v1.1, (v1.2 + 1))))))
def fX4_alike (p0 : Int64) (o1 : Nat → Int64) (p2 : Int32) : Option (Int32) :=
  lp (fX4_alike_L6 p0 o1 p2) lpN (0, 0)
theorem myX4_alike : MYs yX4_alike cX4_alike 6 (some .int) 3 := ⟨mw_3_42, mw_3_43, mw_1_7, ⟨by decide +kernel, by decide +kernel⟩, by decide +kernel⟩
set_option maxRecDepth 100000 in
set_option maxHeartbeats 4000000 in
theorem kX4_alike (l : Launch) (Z : GZ) (a1 : Nat) (p0 : Int64) (o1 : Nat → Int64) (p2 : Int32) (res : Int32) (h : fX4_alike p0 o1 p2 = some res) : MI l Z yX4_alike cX4_alike 6 .int 0 0 [.long p0, .ref a1, .int p2] [(a1, .inl (zJ Z, 8, .inr (.inl o1)))] res [(a1, .inl (zJ Z, 8, .inr (.inl o1)))] := by
  refine MI_of (by decide +kernel) (Nat.le_of_ble_eq_true rfl) (fun {p e s m args below meth c} A R hR Q hQ C hr hlk => ?_)
  unfold fX4_alike at h
  refine g_lv [0, 1, 2] [(0, .long p0), (2, .ref a1), (3, .int p2)] rfl ?_
  refine g_iconst C 0 dX4_alike_0 (by decide) ?_
  refine g_istore C dX4_alike_1 (by decide) [(4, .int 0), (0, .long p0), (2, .ref a1), (3, .int p2)] rfl ?_
  refine g_iconst C 0 dX4_alike_3 (by decide) ?_
  refine g_istore C dX4_alike_4 (by decide) [(5, .int 0), (4, .int 0), (0, .long p0), (2, .ref a1), (3, .int p2)] rfl ?_
  refine g_lv [2, 3, 4, 1, 0] [(0, .long p0), (2, .ref a1), (3, .int p2), (4, .int 0), (5, .int 0)] rfl ?_
  refine g_loop (lvf := fun v1 => [(0, .long p0), (2, .ref a1), (3, .int p2), (4, .int v1.1), (5, .int v1.2)]) (wsf := fun v1 => [(a1, .inl (zJ Z, 8, .inr (.inl o1)))]) h (fun v1 y1 h hk1 hx1 => ?_)
  refine g_eq (lv1 := [(0, .long p0), (2, .ref a1), (3, .int p2), (4, .int v1.1), (5, .int v1.2)]) (st1 := []) (ws1 := [(a1, .inl (zJ Z, 8, .inr (.inl o1)))]) rfl rfl rfl rfl ?_
  unfold fX4_alike_L6 at h
  refine g_iload C dX4_alike_6 4 rfl ?_
  refine g_iload_n C dX4_alike_8 rfl 2 rfl ?_
  refine g_icmp_ge C 36 dX4_alike_9 (by decide) (fun c2 => ?_) (fun c2 => ?_)
  · replace h := it_t c2 h
    obtain ⟨r3, h, hy⟩ := ex_of h
    rw [hx1 r3 hy] at h
    refine g_iload C dX4_alike_36 3 rfl ?_
    obtain rfl := Option.some.inj h
    subst hQ
    exact g_iret C rfl hr hlk dX4_alike_38 [0] rfl (by decide)
  · replace h := it_f c2 h
    refine g_aload_n C dX4_alike_12 rfl 1 rfl ?_
    refine g_iload C dX4_alike_13 4 rfl ?_
    obtain ⟨hi4, h⟩ := ck_of h
    refine g_lald C 0 rfl hi4 dX4_alike_15 ?_
    refine g_lload_n C dX4_alike_16 rfl 0 rfl ?_
    refine g_lcmp C dX4_alike_17 ?_
    refine g_if_ne C 30 dX4_alike_18 (by decide) (fun c5 => ?_) (fun c5 => ?_)
    · replace h := it_f c5 h
      refine g_iinc C (v1.2 + 1) dX4_alike_30 4 rfl rfl (by decide) [(5, .int (v1.2 + 1)), (0, .long p0), (2, .ref a1), (3, .int p2), (4, .int v1.1)] rfl ?_
      refine g_goto C 6 dX4_alike_33 (by decide) ?_
      refine g_lv [1, 2, 3, 4, 0] [(0, .long p0), (2, .ref a1), (3, .int p2), (4, .int v1.1), (5, .int (v1.2 + 1))] rfl ?_
      exact hk1 (v1.1, (v1.2 + 1)) (Option.some.inj h).symm
    · replace h := it_t c5 h
      refine g_iload C dX4_alike_21 3 rfl ?_
      refine g_iconst C 1 dX4_alike_23 (by decide) ?_
      refine g_iload C dX4_alike_24 4 rfl ?_
      refine g_ishl C dX4_alike_26 ?_
      refine g_ior C dX4_alike_27 ?_
      refine g_istore C dX4_alike_28 (by decide) [(4, .int (v1.1 ||| (jshl 1 v1.2))), (0, .long p0), (2, .ref a1), (3, .int p2), (5, .int v1.2)] rfl ?_
      refine g_iinc C (v1.2 + 1) dX4_alike_30 4 rfl rfl (by decide) [(5, .int (v1.2 + 1)), (4, .int (v1.1 ||| (jshl 1 v1.2))), (0, .long p0), (2, .ref a1), (3, .int p2)] rfl ?_
      refine g_goto C 6 dX4_alike_33 (by decide) ?_
      refine g_lv [2, 3, 4, 1, 0] [(0, .long p0), (2, .ref a1), (3, .int p2), (4, .int (v1.1 ||| (jshl 1 v1.2))), (5, .int (v1.2 + 1))] rfl ?_
      exact hk1 ((v1.1 ||| (jshl 1 v1.2)), (v1.2 + 1)) (Option.some.inj h).symm
def fX4_trace_L5 (p0 : Int32) (o1 : Nat → Int32) (p2 : Int32) (v1 : Int32 × Int32) : Option ((Int32 × Int32) ⊕ (Int32)) :=
  if p2 ≤ v1.2 then (ex (some v1.1))
  else (ck (okI v1.2 8) (some (.inl ((v1.1 ||| (jshl ((jshr p0 (o1 (ix v1.2))) &&& 1) v1.2)), (v1.2 + 1)))))
def fX4_trace (p0 : Int32) (o1 : Nat → Int32) (p2 : Int32) : Option (Int32) :=
  lp (fX4_trace_L5 p0 o1 p2) lpN (0, 0)
theorem myX4_trace : MYs yX4_trace cX4_trace 5 (some .int) 3 := ⟨mw_3_65, mw_3_66, mw_1_7, ⟨by decide +kernel, by decide +kernel⟩, by decide +kernel⟩
set_option maxRecDepth 100000 in
set_option maxHeartbeats 4000000 in
theorem kX4_trace (l : Launch) (Z : GZ) (a1 : Nat) (p0 : Int32) (o1 : Nat → Int32) (p2 : Int32) (res : Int32) (h : fX4_trace p0 o1 p2 = some res) : MI l Z yX4_trace cX4_trace 5 .int 0 0 [.int p0, .ref a1, .int p2] [(a1, .inl (zI Z, 8, .inl o1))] res [(a1, .inl (zI Z, 8, .inl o1))] := by
  refine MI_of (by decide +kernel) (Nat.le_of_ble_eq_true rfl) (fun {p e s m args below meth c} A R hR Q hQ C hr hlk => ?_)
  unfold fX4_trace at h
  refine g_lv [0, 1, 2] [(0, .int p0), (1, .ref a1), (2, .int p2)] rfl ?_
  refine g_iconst C 0 dX4_trace_0 (by decide) ?_
  refine g_istore_n C dX4_trace_1 rfl (by decide) [(3, .int 0), (0, .int p0), (1, .ref a1), (2, .int p2)] rfl ?_
  refine g_iconst C 0 dX4_trace_2 (by decide) ?_
  refine g_istore C dX4_trace_3 (by decide) [(4, .int 0), (3, .int 0), (0, .int p0), (1, .ref a1), (2, .int p2)] rfl ?_
  refine g_lv [2, 3, 4, 1, 0] [(0, .int p0), (1, .ref a1), (2, .int p2), (3, .int 0), (4, .int 0)] rfl ?_
  refine g_loop (lvf := fun v1 => [(0, .int p0), (1, .ref a1), (2, .int p2), (3, .int v1.1), (4, .int v1.2)]) (wsf := fun v1 => [(a1, .inl (zI Z, 8, .inl o1))]) h (fun v1 y1 h hk1 hx1 => ?_)
  refine g_eq (lv1 := [(0, .int p0), (1, .ref a1), (2, .int p2), (3, .int v1.1), (4, .int v1.2)]) (st1 := []) (ws1 := [(a1, .inl (zI Z, 8, .inl o1))]) rfl rfl rfl rfl ?_
  unfold fX4_trace_L5 at h
  refine g_iload C dX4_trace_5 4 rfl ?_
  refine g_iload_n C dX4_trace_7 rfl 2 rfl ?_
  refine g_icmp_ge C 31 dX4_trace_8 (by decide) (fun c2 => ?_) (fun c2 => ?_)
  · replace h := it_t c2 h
    obtain ⟨r3, h, hy⟩ := ex_of h
    rw [hx1 r3 hy] at h
    refine g_iload_n C dX4_trace_31 rfl 3 rfl ?_
    obtain rfl := Option.some.inj h
    subst hQ
    exact g_iret C rfl hr hlk dX4_trace_32 [0] rfl (by decide)
  · replace h := it_f c2 h
    refine g_iload_n C dX4_trace_11 rfl 3 rfl ?_
    refine g_iload_n C dX4_trace_12 rfl 0 rfl ?_
    refine g_aload_n C dX4_trace_13 rfl 1 rfl ?_
    refine g_iload C dX4_trace_14 4 rfl ?_
    obtain ⟨hi4, h⟩ := ck_of h
    refine g_iald C 0 rfl hi4 dX4_trace_16 ?_
    refine g_ishr C dX4_trace_17 ?_
    refine g_iconst C 1 dX4_trace_18 (by decide) ?_
    refine g_iand C dX4_trace_19 ?_
    refine g_iload C dX4_trace_20 4 rfl ?_
    refine g_ishl C dX4_trace_22 ?_
    refine g_ior C dX4_trace_23 ?_
    refine g_istore_n C dX4_trace_24 rfl (by decide) [(3, .int (v1.1 ||| (jshl ((jshr p0 (o1 (ix v1.2))) &&& 1) v1.2))), (0, .int p0), (1, .ref a1), (2, .int p2), (4, .int v1.2)] rfl ?_
    refine g_iinc C (v1.2 + 1) dX4_trace_25 4 rfl rfl (by decide) [(4, .int (v1.2 + 1)), (3, .int (v1.1 ||| (jshl ((jshr p0 (o1 (ix v1.2))) &&& 1) v1.2))), (0, .int p0), (1, .ref a1), (2, .int p2)] rfl ?_
    refine g_goto C 5 dX4_trace_28 (by decide) ?_
    refine g_lv [2, 3, 4, 1, 0] [(0, .int p0), (1, .ref a1), (2, .int p2), (3, .int (v1.1 ||| (jshl ((jshr p0 (o1 (ix v1.2))) &&& 1) v1.2))), (4, .int (v1.2 + 1))] rfl ?_
    exact hk1 ((v1.1 ||| (jshl ((jshr p0 (o1 (ix v1.2))) &&& 1) v1.2)), (v1.2 + 1)) (Option.some.inj h).symm
def fX4_agrees_L141 (o0 : OX4) (o1 : OX2) (v1 : Int32 × (Nat → Int32) × (Nat → Int32) × (Nat → Int32)) (v4 : Int32 × (Nat → Int32)) (v7 : Int32) : Option ((Int32) ⊕ (Int32 × OX4)) :=
  if (q2_facets o1) ≤ v7 then (ex (some (1, (s4_tally (s4_targetTraces (s4_traces o0 v1.2.1) v1.2.2.1) v4.2))))
  else (ck (okI v7 10) (ck (okI (v1.2.1 (ix v7)) 256) (if (v4.2 (ix (v1.2.1 (ix v7)))) = 0 then (some (.inl (v7 + 1)))
  else (ex (some (0, (s4_tally (s4_targetTraces (s4_traces o0 v1.2.1) v1.2.2.1) v4.2)))))))
def fX4_agrees_L91 (o0 : OX4) (o1 : OX2) (v1 : Int32 × (Nat → Int32) × (Nat → Int32) × (Nat → Int32)) (v4 : Int32 × (Nat → Int32)) : Option ((Int32 × (Nat → Int32)) ⊕ (Int32 × OX4)) :=
  if (q2_facets o1) ≤ v4.1 then (ex (lp (fX4_agrees_L141 o0 o1 v1 v4) lpN 0))
  else (ck (okI v4.1 10) (ck (okI (v1.2.1 (ix v4.1)) 256) (ck (okI (v1.2.1 (ix v4.1)) 256) (ck (okI v4.1 10) (ck (okI (v1.2.2.1 (ix v4.1)) 256) (ck (okI (v1.2.2.1 (ix v4.1)) 256) (some (.inl ((v4.1 + 1), (upd (upd v4.2 (ix (v1.2.1 (ix v4.1))) ((v4.2 (ix (v1.2.1 (ix v4.1)))) + 1)) (ix (v1.2.2.1 (ix v4.1))) (((upd v4.2 (ix (v1.2.1 (ix v4.1))) ((v4.2 (ix (v1.2.1 (ix v4.1)))) + 1)) (ix (v1.2.2.1 (ix v4.1)))) - 1)))))))))))
def fX4_agrees_L3 (o0 : OX4) (o1 : OX2) (o2 : OX2) (p3 : Int32) (v1 : Int32 × (Nat → Int32) × (Nat → Int32) × (Nat → Int32)) : Option ((Int32 × (Nat → Int32) × (Nat → Int32) × (Nat → Int32)) ⊕ (Int32 × OX4)) :=
  if (q2_facets o1) ≤ v1.1 then (ex (lp (fX4_agrees_L91 o0 o1 v1) lpN (0, v1.2.2.2)))
  else (ck (okI v1.1 10) ((fX4_trace ((q2_sets o1) (ix v1.1)) (q4_order o0) p3).bind fun r21 =>
  (ck (okI v1.1 10) (ck (okI v1.1 10) ((fX4_trace ((q2_sets o2) (ix v1.1)) (q4_image o0) p3).bind fun r25 =>
  (ck (okI v1.1 10) (ck (okI v1.1 10) (ck (okI ((upd v1.2.1 (ix v1.1) r21) (ix v1.1)) 256) (ck (okI v1.1 10) (ck (okI ((upd v1.2.2.1 (ix v1.1) r25) (ix v1.1)) 256) (some (.inl ((v1.1 + 1), (upd v1.2.1 (ix v1.1) r21), (upd v1.2.2.1 (ix v1.1) r25), (upd (upd v1.2.2.2 (ix ((upd v1.2.1 (ix v1.1) r21) (ix v1.1))) 0) (ix ((upd v1.2.2.1 (ix v1.1) r25) (ix v1.1))) 0))))))))))))))
def fX4_agrees (o0 : OX4) (o1 : OX2) (o2 : OX2) (p3 : Int32) : Option (Int32 × OX4) :=
  lp (fX4_agrees_L3 o0 o1 o2 p3) lpN (0, (q4_traces o0), (q4_targetTraces o0), (q4_tally o0))
theorem myX4_agrees : MYv yX4_agrees cX4_agrees 5 (some .boolean) 3 := ⟨mw_3_62, ms_18, mw_3_63, mw_1_7, ⟨by decide +kernel, by decide +kernel⟩, by decide +kernel⟩
set_option maxRecDepth 100000 in
set_option maxHeartbeats 4000000 in
theorem kX4_agrees (l : Launch) (Z : GZ) (a0 a0_image a0_order a0_allowed a0_signatures a0_targetSignatures a0_traces a0_targetTraces a0_tally a1 a1_sets a2 a2_sets : Nat) (o0 : OX4) (o1 : OX2) (o2 : OX2) (p3 : Int32) (res : Int32 × OX4) (h : fX4_agrees o0 o1 o2 p3 = some res) : MI l Z yX4_agrees cX4_agrees 5 .boolean 1 24 [.ref a0, .ref a1, .ref a2, .int p3] [(a0, .inr (4, [.ref a0_image, .ref a0_order, .ref a0_allowed, .ref a0_signatures, .ref a0_targetSignatures, .ref a0_traces, .ref a0_targetTraces, .ref a0_tally])), (a0_image, .inl (zI Z, 8, .inl (q4_image o0))), (a0_order, .inl (zI Z, 8, .inl (q4_order o0))), (a0_traces, .inl (zI Z, 10, .inl (q4_traces o0))), (a0_targetTraces, .inl (zI Z, 10, .inl (q4_targetTraces o0))), (a0_tally, .inl (zI Z, 256, .inl (q4_tally o0))), (a1, .inr (2, [.ref a1_sets, .int (q2_points o1), .int (q2_facets o1)])), (a1_sets, .inl (zI Z, 10, .inl (q2_sets o1))), (a2, .inr (2, [.ref a2_sets, .int (q2_points o2), .int (q2_facets o2)])), (a2_sets, .inl (zI Z, 10, .inl (q2_sets o2)))] res.1 [(a0, .inr (4, [.ref a0_image, .ref a0_order, .ref a0_allowed, .ref a0_signatures, .ref a0_targetSignatures, .ref a0_traces, .ref a0_targetTraces, .ref a0_tally])), (a0_image, .inl (zI Z, 8, .inl (q4_image o0))), (a0_order, .inl (zI Z, 8, .inl (q4_order o0))), (a0_traces, .inl (zI Z, 10, .inl (q4_traces res.2))), (a0_targetTraces, .inl (zI Z, 10, .inl (q4_targetTraces res.2))), (a0_tally, .inl (zI Z, 256, .inl (q4_tally res.2))), (a1, .inr (2, [.ref a1_sets, .int (q2_points o1), .int (q2_facets o1)])), (a1_sets, .inl (zI Z, 10, .inl (q2_sets o1))), (a2, .inr (2, [.ref a2_sets, .int (q2_points o2), .int (q2_facets o2)])), (a2_sets, .inl (zI Z, 10, .inl (q2_sets o2)))] := by
  refine MI_of (by decide +kernel) (Nat.le_of_ble_eq_true rfl) (fun {p e s m args below meth c} A R hR Q hQ C hr hlk => ?_)
  unfold fX4_agrees at h
  refine g_lv [0, 1, 2, 3] [(0, .ref a0), (1, .ref a1), (2, .ref a2), (3, .int p3)] rfl ?_
  refine g_iconst C 0 dX4_agrees_0 (by decide) ?_
  refine g_istore C dX4_agrees_1 (by decide) [(4, .int 0), (0, .ref a0), (1, .ref a1), (2, .ref a2), (3, .int p3)] rfl ?_
  refine g_lv [1, 2, 3, 4, 0] [(0, .ref a0), (1, .ref a1), (2, .ref a2), (3, .int p3), (4, .int 0)] rfl ?_
  refine g_loop (lvf := fun v1 => [(0, .ref a0), (1, .ref a1), (2, .ref a2), (3, .int p3), (4, .int v1.1)]) (wsf := fun v1 => [(a0, .inr (4, [.ref a0_image, .ref a0_order, .ref a0_allowed, .ref a0_signatures, .ref a0_targetSignatures, .ref a0_traces, .ref a0_targetTraces, .ref a0_tally])), (a0_image, .inl (zI Z, 8, .inl (q4_image o0))), (a0_order, .inl (zI Z, 8, .inl (q4_order o0))), (a0_traces, .inl (zI Z, 10, .inl v1.2.1)), (a0_targetTraces, .inl (zI Z, 10, .inl v1.2.2.1)), (a0_tally, .inl (zI Z, 256, .inl v1.2.2.2)), (a1, .inr (2, [.ref a1_sets, .int (q2_points o1), .int (q2_facets o1)])), (a1_sets, .inl (zI Z, 10, .inl (q2_sets o1))), (a2, .inr (2, [.ref a2_sets, .int (q2_points o2), .int (q2_facets o2)])), (a2_sets, .inl (zI Z, 10, .inl (q2_sets o2)))]) h (fun v1 y1 h hk1 hx1 => ?_)
  refine g_eq (lv1 := [(0, .ref a0), (1, .ref a1), (2, .ref a2), (3, .int p3), (4, .int v1.1)]) (st1 := []) (ws1 := [(a0, .inr (4, [.ref a0_image, .ref a0_order, .ref a0_allowed, .ref a0_signatures, .ref a0_targetSignatures, .ref a0_traces, .ref a0_targetTraces, .ref a0_tally])), (a0_image, .inl (zI Z, 8, .inl (q4_image o0))), (a0_order, .inl (zI Z, 8, .inl (q4_order o0))), (a0_traces, .inl (zI Z, 10, .inl v1.2.1)), (a0_targetTraces, .inl (zI Z, 10, .inl v1.2.2.1)), (a0_tally, .inl (zI Z, 256, .inl v1.2.2.2)), (a1, .inr (2, [.ref a1_sets, .int (q2_points o1), .int (q2_facets o1)])), (a1_sets, .inl (zI Z, 10, .inl (q2_sets o1))), (a2, .inr (2, [.ref a2_sets, .int (q2_points o2), .int (q2_facets o2)])), (a2_sets, .inl (zI Z, 10, .inl (q2_sets o2)))]) rfl rfl rfl rfl ?_
  unfold fX4_agrees_L3 at h
  refine g_iload C dX4_agrees_3 4 rfl ?_
  refine g_aload_n C dX4_agrees_5 rfl 1 rfl ?_
  refine g_get C 2 73 gin2 6 rfl rfl 2 (by decide) mw_1_83 rfl rfl dX4_agrees_6 ?_
  refine g_icmp_ge C 88 dX4_agrees_9 (by decide) (fun c2 => ?_) (fun c2 => ?_)
  · replace h := it_t c2 h
    obtain ⟨r3, h, hy⟩ := ex_of h
    rw [hx1 r3 hy] at h
    refine g_iconst C 0 dX4_agrees_88 (by decide) ?_
    refine g_istore C dX4_agrees_89 (by decide) [(4, .int 0), (0, .ref a0), (1, .ref a1), (2, .ref a2), (3, .int p3)] rfl ?_
    refine g_lv [1, 2, 0] [(0, .ref a0), (1, .ref a1), (4, .int 0)] rfl ?_
    refine g_loop (lvf := fun v4 => [(0, .ref a0), (1, .ref a1), (4, .int v4.1)]) (wsf := fun v4 => [(a0, .inr (4, [.ref a0_image, .ref a0_order, .ref a0_allowed, .ref a0_signatures, .ref a0_targetSignatures, .ref a0_traces, .ref a0_targetTraces, .ref a0_tally])), (a0_image, .inl (zI Z, 8, .inl (q4_image o0))), (a0_order, .inl (zI Z, 8, .inl (q4_order o0))), (a0_traces, .inl (zI Z, 10, .inl v1.2.1)), (a0_targetTraces, .inl (zI Z, 10, .inl v1.2.2.1)), (a0_tally, .inl (zI Z, 256, .inl v4.2)), (a1, .inr (2, [.ref a1_sets, .int (q2_points o1), .int (q2_facets o1)])), (a1_sets, .inl (zI Z, 10, .inl (q2_sets o1))), (a2, .inr (2, [.ref a2_sets, .int (q2_points o2), .int (q2_facets o2)])), (a2_sets, .inl (zI Z, 10, .inl (q2_sets o2)))]) h (fun v4 y1 h hk1 hx1 => ?_)
    refine g_eq (lv1 := [(0, .ref a0), (1, .ref a1), (4, .int v4.1)]) (st1 := []) (ws1 := [(a0, .inr (4, [.ref a0_image, .ref a0_order, .ref a0_allowed, .ref a0_signatures, .ref a0_targetSignatures, .ref a0_traces, .ref a0_targetTraces, .ref a0_tally])), (a0_image, .inl (zI Z, 8, .inl (q4_image o0))), (a0_order, .inl (zI Z, 8, .inl (q4_order o0))), (a0_traces, .inl (zI Z, 10, .inl v1.2.1)), (a0_targetTraces, .inl (zI Z, 10, .inl v1.2.2.1)), (a0_tally, .inl (zI Z, 256, .inl v4.2)), (a1, .inr (2, [.ref a1_sets, .int (q2_points o1), .int (q2_facets o1)])), (a1_sets, .inl (zI Z, 10, .inl (q2_sets o1))), (a2, .inr (2, [.ref a2_sets, .int (q2_points o2), .int (q2_facets o2)])), (a2_sets, .inl (zI Z, 10, .inl (q2_sets o2)))]) rfl rfl rfl rfl ?_
    unfold fX4_agrees_L91 at h
    refine g_iload C dX4_agrees_91 2 rfl ?_
    refine g_aload_n C dX4_agrees_93 rfl 1 rfl ?_
    refine g_get C 2 73 gin2 6 rfl rfl 2 (by decide) mw_1_83 rfl rfl dX4_agrees_94 ?_
    refine g_icmp_ge C 138 dX4_agrees_97 (by decide) (fun c5 => ?_) (fun c5 => ?_)
    · replace h := it_t c5 h
      obtain ⟨r6, h, hy⟩ := ex_of h
      rw [hx1 r6 hy] at h
      refine g_iconst C 0 dX4_agrees_138 (by decide) ?_
      refine g_istore C dX4_agrees_139 (by decide) [(4, .int 0), (0, .ref a0), (1, .ref a1)] rfl ?_
      refine g_lv [1, 2, 0] [(0, .ref a0), (1, .ref a1), (4, .int 0)] rfl ?_
      refine g_loop (lvf := fun v7 => [(0, .ref a0), (1, .ref a1), (4, .int v7)]) (wsf := fun v7 => [(a0, .inr (4, [.ref a0_image, .ref a0_order, .ref a0_allowed, .ref a0_signatures, .ref a0_targetSignatures, .ref a0_traces, .ref a0_targetTraces, .ref a0_tally])), (a0_image, .inl (zI Z, 8, .inl (q4_image o0))), (a0_order, .inl (zI Z, 8, .inl (q4_order o0))), (a0_traces, .inl (zI Z, 10, .inl v1.2.1)), (a0_targetTraces, .inl (zI Z, 10, .inl v1.2.2.1)), (a0_tally, .inl (zI Z, 256, .inl v4.2)), (a1, .inr (2, [.ref a1_sets, .int (q2_points o1), .int (q2_facets o1)])), (a1_sets, .inl (zI Z, 10, .inl (q2_sets o1))), (a2, .inr (2, [.ref a2_sets, .int (q2_points o2), .int (q2_facets o2)])), (a2_sets, .inl (zI Z, 10, .inl (q2_sets o2)))]) h (fun v7 y1 h hk1 hx1 => ?_)
      refine g_eq (lv1 := [(0, .ref a0), (1, .ref a1), (4, .int v7)]) (st1 := []) (ws1 := [(a0, .inr (4, [.ref a0_image, .ref a0_order, .ref a0_allowed, .ref a0_signatures, .ref a0_targetSignatures, .ref a0_traces, .ref a0_targetTraces, .ref a0_tally])), (a0_image, .inl (zI Z, 8, .inl (q4_image o0))), (a0_order, .inl (zI Z, 8, .inl (q4_order o0))), (a0_traces, .inl (zI Z, 10, .inl v1.2.1)), (a0_targetTraces, .inl (zI Z, 10, .inl v1.2.2.1)), (a0_tally, .inl (zI Z, 256, .inl v4.2)), (a1, .inr (2, [.ref a1_sets, .int (q2_points o1), .int (q2_facets o1)])), (a1_sets, .inl (zI Z, 10, .inl (q2_sets o1))), (a2, .inr (2, [.ref a2_sets, .int (q2_points o2), .int (q2_facets o2)])), (a2_sets, .inl (zI Z, 10, .inl (q2_sets o2)))]) rfl rfl rfl rfl ?_
      unfold fX4_agrees_L141 at h
      refine g_iload C dX4_agrees_141 2 rfl ?_
      refine g_aload_n C dX4_agrees_143 rfl 1 rfl ?_
      refine g_get C 2 73 gin2 6 rfl rfl 2 (by decide) mw_1_83 rfl rfl dX4_agrees_144 ?_
      refine g_icmp_ge C 173 dX4_agrees_147 (by decide) (fun c8 => ?_) (fun c8 => ?_)
      · replace h := it_t c8 h
        obtain ⟨r9, h, hy⟩ := ex_of h
        rw [hx1 r9 hy] at h
        refine g_iconst C 1 dX4_agrees_173 (by decide) ?_
        obtain rfl := Option.some.inj h
        subst hQ
        exact g_zret C rfl (Or.inr rfl) hr hlk dX4_agrees_174 [0, 1, 2, 3, 4, 5, 6, 7, 8, 9] rfl (by decide)
      · replace h := it_f c8 h
        refine g_aload_n C dX4_agrees_150 rfl 0 rfl ?_
        refine g_get C 4 34 gin4 0 rfl rfl 7 (by decide) mw_1_170 rfl rfl dX4_agrees_151 ?_
        refine g_aload_n C dX4_agrees_154 rfl 0 rfl ?_
        refine g_get C 4 28 gin4 0 rfl rfl 5 (by decide) mw_1_168 rfl rfl dX4_agrees_155 ?_
        refine g_iload C dX4_agrees_158 2 rfl ?_
        obtain ⟨hi10, h⟩ := ck_of h
        refine g_iald C 3 rfl hi10 dX4_agrees_160 ?_
        obtain ⟨hi11, h⟩ := ck_of h
        refine g_iald C 5 rfl hi11 dX4_agrees_161 ?_
        refine g_if_eq C 167 dX4_agrees_162 (by decide) (fun c12 => ?_) (fun c12 => ?_)
        · replace h := it_t c12 h
          refine g_iinc C (v7 + 1) dX4_agrees_167 2 rfl rfl (by decide) [(4, .int (v7 + 1)), (0, .ref a0), (1, .ref a1)] rfl ?_
          refine g_goto C 141 dX4_agrees_170 (by decide) ?_
          refine g_lv [1, 2, 0] [(0, .ref a0), (1, .ref a1), (4, .int (v7 + 1))] rfl ?_
          exact hk1 (v7 + 1) (Option.some.inj h).symm
        · replace h := it_f c12 h
          obtain ⟨r13, h, hy⟩ := ex_of h
          rw [hx1 r13 hy] at h
          refine g_iconst C 0 dX4_agrees_165 (by decide) ?_
          obtain rfl := Option.some.inj h
          subst hQ
          exact g_zret C rfl (Or.inl rfl) hr hlk dX4_agrees_166 [0, 1, 2, 3, 4, 5, 6, 7, 8, 9] rfl (by decide)
    · replace h := it_f c5 h
      refine g_aload_n C dX4_agrees_100 rfl 0 rfl ?_
      refine g_get C 4 34 gin4 0 rfl rfl 7 (by decide) mw_1_170 rfl rfl dX4_agrees_101 ?_
      refine g_aload_n C dX4_agrees_104 rfl 0 rfl ?_
      refine g_get C 4 28 gin4 0 rfl rfl 5 (by decide) mw_1_168 rfl rfl dX4_agrees_105 ?_
      refine g_iload C dX4_agrees_108 2 rfl ?_
      obtain ⟨hi14, h⟩ := ck_of h
      refine g_iald C 3 rfl hi14 dX4_agrees_110 ?_
      refine g_dup2 C dX4_agrees_111 rfl rfl ?_
      obtain ⟨hi15, h⟩ := ck_of h
      refine g_iald C 5 rfl hi15 dX4_agrees_112 ?_
      refine g_iconst C 1 dX4_agrees_113 (by decide) ?_
      refine g_iadd C dX4_agrees_114 ?_
      obtain ⟨hi16, h⟩ := ck_of h
      refine g_iast C 5 rfl hi16 [(a0, .inr (4, [.ref a0_image, .ref a0_order, .ref a0_allowed, .ref a0_signatures, .ref a0_targetSignatures, .ref a0_traces, .ref a0_targetTraces, .ref a0_tally])), (a0_image, .inl (zI Z, 8, .inl (q4_image o0))), (a0_order, .inl (zI Z, 8, .inl (q4_order o0))), (a0_traces, .inl (zI Z, 10, .inl v1.2.1)), (a0_targetTraces, .inl (zI Z, 10, .inl v1.2.2.1)), (a0_tally, .inl (zI Z, 256, .inl (upd v4.2 (ix (v1.2.1 (ix v4.1))) ((v4.2 (ix (v1.2.1 (ix v4.1)))) + 1)))), (a1, .inr (2, [.ref a1_sets, .int (q2_points o1), .int (q2_facets o1)])), (a1_sets, .inl (zI Z, 10, .inl (q2_sets o1))), (a2, .inr (2, [.ref a2_sets, .int (q2_points o2), .int (q2_facets o2)])), (a2_sets, .inl (zI Z, 10, .inl (q2_sets o2)))] rfl dX4_agrees_115 ?_
      refine g_aload_n C dX4_agrees_116 rfl 0 rfl ?_
      refine g_get C 4 34 gin4 0 rfl rfl 7 (by decide) mw_1_170 rfl rfl dX4_agrees_117 ?_
      refine g_aload_n C dX4_agrees_120 rfl 0 rfl ?_
      refine g_get C 4 31 gin4 0 rfl rfl 6 (by decide) mw_1_169 rfl rfl dX4_agrees_121 ?_
      refine g_iload C dX4_agrees_124 2 rfl ?_
      obtain ⟨hi17, h⟩ := ck_of h
      refine g_iald C 4 rfl hi17 dX4_agrees_126 ?_
      refine g_dup2 C dX4_agrees_127 rfl rfl ?_
      obtain ⟨hi18, h⟩ := ck_of h
      refine g_iald C 5 rfl hi18 dX4_agrees_128 ?_
      refine g_iconst C 1 dX4_agrees_129 (by decide) ?_
      refine g_isub C dX4_agrees_130 ?_
      obtain ⟨hi19, h⟩ := ck_of h
      refine g_iast C 5 rfl hi19 [(a0, .inr (4, [.ref a0_image, .ref a0_order, .ref a0_allowed, .ref a0_signatures, .ref a0_targetSignatures, .ref a0_traces, .ref a0_targetTraces, .ref a0_tally])), (a0_image, .inl (zI Z, 8, .inl (q4_image o0))), (a0_order, .inl (zI Z, 8, .inl (q4_order o0))), (a0_traces, .inl (zI Z, 10, .inl v1.2.1)), (a0_targetTraces, .inl (zI Z, 10, .inl v1.2.2.1)), (a0_tally, .inl (zI Z, 256, .inl (upd (upd v4.2 (ix (v1.2.1 (ix v4.1))) ((v4.2 (ix (v1.2.1 (ix v4.1)))) + 1)) (ix (v1.2.2.1 (ix v4.1))) (((upd v4.2 (ix (v1.2.1 (ix v4.1))) ((v4.2 (ix (v1.2.1 (ix v4.1)))) + 1)) (ix (v1.2.2.1 (ix v4.1)))) - 1)))), (a1, .inr (2, [.ref a1_sets, .int (q2_points o1), .int (q2_facets o1)])), (a1_sets, .inl (zI Z, 10, .inl (q2_sets o1))), (a2, .inr (2, [.ref a2_sets, .int (q2_points o2), .int (q2_facets o2)])), (a2_sets, .inl (zI Z, 10, .inl (q2_sets o2)))] rfl dX4_agrees_131 ?_
      refine g_iinc C (v4.1 + 1) dX4_agrees_132 2 rfl rfl (by decide) [(4, .int (v4.1 + 1)), (0, .ref a0), (1, .ref a1)] rfl ?_
      refine g_goto C 91 dX4_agrees_135 (by decide) ?_
      refine g_lv [1, 2, 0] [(0, .ref a0), (1, .ref a1), (4, .int (v4.1 + 1))] rfl ?_
      exact hk1 ((v4.1 + 1), (upd (upd v4.2 (ix (v1.2.1 (ix v4.1))) ((v4.2 (ix (v1.2.1 (ix v4.1)))) + 1)) (ix (v1.2.2.1 (ix v4.1))) (((upd v4.2 (ix (v1.2.1 (ix v4.1))) ((v4.2 (ix (v1.2.1 (ix v4.1)))) + 1)) (ix (v1.2.2.1 (ix v4.1)))) - 1))) (Option.some.inj h).symm
  · replace h := it_f c2 h
    refine g_aload_n C dX4_agrees_12 rfl 0 rfl ?_
    refine g_get C 4 28 gin4 0 rfl rfl 5 (by decide) mw_1_168 rfl rfl dX4_agrees_13 ?_
    refine g_iload C dX4_agrees_16 4 rfl ?_
    refine g_aload_n C dX4_agrees_18 rfl 1 rfl ?_
    refine g_get C 2 80 gin2 6 rfl rfl 0 (by decide) mw_1_71 rfl rfl dX4_agrees_19 ?_
    refine g_iload C dX4_agrees_22 4 rfl ?_
    obtain ⟨hi20, h⟩ := ck_of h
    refine g_iald C 7 rfl hi20 dX4_agrees_24 ?_
    refine g_aload_n C dX4_agrees_25 rfl 0 rfl ?_
    refine g_get C 4 15 gin4 0 rfl rfl 1 (by decide) mw_1_164 rfl rfl dX4_agrees_26 ?_
    refine g_iload_n C dX4_agrees_29 rfl 3 rfl ?_
    obtain ⟨r21, hr22, h⟩ := bd_of h
    refine g_callSi C (kX4_trace l Z a0_order ((q2_sets o1) (ix v1.1)) (q4_order o0) p3 r21 hr22) myX4_trace 95 mw_3_64 rfl [2] [0, 1, 3, 4, 5, 6, 7, 8, 9] [0, 1, 9, 2, 3, 4, 5, 6, 7, 8] (wr := [(a0, .inr (4, [.ref a0_image, .ref a0_order, .ref a0_allowed, .ref a0_signatures, .ref a0_targetSignatures, .ref a0_traces, .ref a0_targetTraces, .ref a0_tally])), (a0_image, .inl (zI Z, 8, .inl (q4_image o0))), (a0_traces, .inl (zI Z, 10, .inl v1.2.1)), (a0_targetTraces, .inl (zI Z, 10, .inl v1.2.2.1)), (a0_tally, .inl (zI Z, 256, .inl v1.2.2.2)), (a1, .inr (2, [.ref a1_sets, .int (q2_points o1), .int (q2_facets o1)])), (a1_sets, .inl (zI Z, 10, .inl (q2_sets o1))), (a2, .inr (2, [.ref a2_sets, .int (q2_points o2), .int (q2_facets o2)])), (a2_sets, .inl (zI Z, 10, .inl (q2_sets o2)))]) rfl rfl (by decide) (by decide) (by decide) [(a0, .inr (4, [.ref a0_image, .ref a0_order, .ref a0_allowed, .ref a0_signatures, .ref a0_targetSignatures, .ref a0_traces, .ref a0_targetTraces, .ref a0_tally])), (a0_image, .inl (zI Z, 8, .inl (q4_image o0))), (a0_order, .inl (zI Z, 8, .inl (q4_order o0))), (a0_traces, .inl (zI Z, 10, .inl v1.2.1)), (a0_targetTraces, .inl (zI Z, 10, .inl v1.2.2.1)), (a0_tally, .inl (zI Z, 256, .inl v1.2.2.2)), (a1, .inr (2, [.ref a1_sets, .int (q2_points o1), .int (q2_facets o1)])), (a1_sets, .inl (zI Z, 10, .inl (q2_sets o1))), (a2, .inr (2, [.ref a2_sets, .int (q2_points o2), .int (q2_facets o2)])), (a2_sets, .inl (zI Z, 10, .inl (q2_sets o2)))] rfl (by decide) (Nat.le_of_ble_eq_true rfl) (by rw [hR]; exact Nat.le_of_ble_eq_true rfl) (by rw [hR]; exact Nat.le_of_ble_eq_true rfl) ⟨by rw [hR]; exact Nat.le_of_ble_eq_true rfl, by rw [hR]; exact Nat.le_of_ble_eq_true rfl⟩ rfl dX4_agrees_30 ?_
    obtain ⟨hi23, h⟩ := ck_of h
    refine g_iast C 3 rfl hi23 [(a0, .inr (4, [.ref a0_image, .ref a0_order, .ref a0_allowed, .ref a0_signatures, .ref a0_targetSignatures, .ref a0_traces, .ref a0_targetTraces, .ref a0_tally])), (a0_image, .inl (zI Z, 8, .inl (q4_image o0))), (a0_order, .inl (zI Z, 8, .inl (q4_order o0))), (a0_traces, .inl (zI Z, 10, .inl (upd v1.2.1 (ix v1.1) r21))), (a0_targetTraces, .inl (zI Z, 10, .inl v1.2.2.1)), (a0_tally, .inl (zI Z, 256, .inl v1.2.2.2)), (a1, .inr (2, [.ref a1_sets, .int (q2_points o1), .int (q2_facets o1)])), (a1_sets, .inl (zI Z, 10, .inl (q2_sets o1))), (a2, .inr (2, [.ref a2_sets, .int (q2_points o2), .int (q2_facets o2)])), (a2_sets, .inl (zI Z, 10, .inl (q2_sets o2)))] rfl dX4_agrees_33 ?_
    refine g_aload_n C dX4_agrees_34 rfl 0 rfl ?_
    refine g_get C 4 31 gin4 0 rfl rfl 6 (by decide) mw_1_169 rfl rfl dX4_agrees_35 ?_
    refine g_iload C dX4_agrees_38 4 rfl ?_
    refine g_aload_n C dX4_agrees_40 rfl 2 rfl ?_
    refine g_get C 2 80 gin2 8 rfl rfl 0 (by decide) mw_1_71 rfl rfl dX4_agrees_41 ?_
    refine g_iload C dX4_agrees_44 4 rfl ?_
    obtain ⟨hi24, h⟩ := ck_of h
    refine g_iald C 9 rfl hi24 dX4_agrees_46 ?_
    refine g_aload_n C dX4_agrees_47 rfl 0 rfl ?_
    refine g_get C 4 9 gin4 0 rfl rfl 0 (by decide) mw_1_162 rfl rfl dX4_agrees_48 ?_
    refine g_iload_n C dX4_agrees_51 rfl 3 rfl ?_
    obtain ⟨r25, hr26, h⟩ := bd_of h
    refine g_callSi C (kX4_trace l Z a0_image ((q2_sets o2) (ix v1.1)) (q4_image o0) p3 r25 hr26) myX4_trace 95 mw_3_64 rfl [1] [0, 2, 3, 4, 5, 6, 7, 8, 9] [0, 9, 1, 2, 3, 4, 5, 6, 7, 8] (wr := [(a0, .inr (4, [.ref a0_image, .ref a0_order, .ref a0_allowed, .ref a0_signatures, .ref a0_targetSignatures, .ref a0_traces, .ref a0_targetTraces, .ref a0_tally])), (a0_order, .inl (zI Z, 8, .inl (q4_order o0))), (a0_traces, .inl (zI Z, 10, .inl (upd v1.2.1 (ix v1.1) r21))), (a0_targetTraces, .inl (zI Z, 10, .inl v1.2.2.1)), (a0_tally, .inl (zI Z, 256, .inl v1.2.2.2)), (a1, .inr (2, [.ref a1_sets, .int (q2_points o1), .int (q2_facets o1)])), (a1_sets, .inl (zI Z, 10, .inl (q2_sets o1))), (a2, .inr (2, [.ref a2_sets, .int (q2_points o2), .int (q2_facets o2)])), (a2_sets, .inl (zI Z, 10, .inl (q2_sets o2)))]) rfl rfl (by decide) (by decide) (by decide) [(a0, .inr (4, [.ref a0_image, .ref a0_order, .ref a0_allowed, .ref a0_signatures, .ref a0_targetSignatures, .ref a0_traces, .ref a0_targetTraces, .ref a0_tally])), (a0_image, .inl (zI Z, 8, .inl (q4_image o0))), (a0_order, .inl (zI Z, 8, .inl (q4_order o0))), (a0_traces, .inl (zI Z, 10, .inl (upd v1.2.1 (ix v1.1) r21))), (a0_targetTraces, .inl (zI Z, 10, .inl v1.2.2.1)), (a0_tally, .inl (zI Z, 256, .inl v1.2.2.2)), (a1, .inr (2, [.ref a1_sets, .int (q2_points o1), .int (q2_facets o1)])), (a1_sets, .inl (zI Z, 10, .inl (q2_sets o1))), (a2, .inr (2, [.ref a2_sets, .int (q2_points o2), .int (q2_facets o2)])), (a2_sets, .inl (zI Z, 10, .inl (q2_sets o2)))] rfl (by decide) (Nat.le_of_ble_eq_true rfl) (by rw [hR]; exact Nat.le_of_ble_eq_true rfl) (by rw [hR]; exact Nat.le_of_ble_eq_true rfl) ⟨by rw [hR]; exact Nat.le_of_ble_eq_true rfl, by rw [hR]; exact Nat.le_of_ble_eq_true rfl⟩ rfl dX4_agrees_52 ?_
    obtain ⟨hi27, h⟩ := ck_of h
    refine g_iast C 4 rfl hi27 [(a0, .inr (4, [.ref a0_image, .ref a0_order, .ref a0_allowed, .ref a0_signatures, .ref a0_targetSignatures, .ref a0_traces, .ref a0_targetTraces, .ref a0_tally])), (a0_image, .inl (zI Z, 8, .inl (q4_image o0))), (a0_order, .inl (zI Z, 8, .inl (q4_order o0))), (a0_traces, .inl (zI Z, 10, .inl (upd v1.2.1 (ix v1.1) r21))), (a0_targetTraces, .inl (zI Z, 10, .inl (upd v1.2.2.1 (ix v1.1) r25))), (a0_tally, .inl (zI Z, 256, .inl v1.2.2.2)), (a1, .inr (2, [.ref a1_sets, .int (q2_points o1), .int (q2_facets o1)])), (a1_sets, .inl (zI Z, 10, .inl (q2_sets o1))), (a2, .inr (2, [.ref a2_sets, .int (q2_points o2), .int (q2_facets o2)])), (a2_sets, .inl (zI Z, 10, .inl (q2_sets o2)))] rfl dX4_agrees_55 ?_
    refine g_aload_n C dX4_agrees_56 rfl 0 rfl ?_
    refine g_get C 4 34 gin4 0 rfl rfl 7 (by decide) mw_1_170 rfl rfl dX4_agrees_57 ?_
    refine g_aload_n C dX4_agrees_60 rfl 0 rfl ?_
    refine g_get C 4 28 gin4 0 rfl rfl 5 (by decide) mw_1_168 rfl rfl dX4_agrees_61 ?_
    refine g_iload C dX4_agrees_64 4 rfl ?_
    obtain ⟨hi28, h⟩ := ck_of h
    refine g_iald C 3 rfl hi28 dX4_agrees_66 ?_
    refine g_iconst C 0 dX4_agrees_67 (by decide) ?_
    obtain ⟨hi29, h⟩ := ck_of h
    refine g_iast C 5 rfl hi29 [(a0, .inr (4, [.ref a0_image, .ref a0_order, .ref a0_allowed, .ref a0_signatures, .ref a0_targetSignatures, .ref a0_traces, .ref a0_targetTraces, .ref a0_tally])), (a0_image, .inl (zI Z, 8, .inl (q4_image o0))), (a0_order, .inl (zI Z, 8, .inl (q4_order o0))), (a0_traces, .inl (zI Z, 10, .inl (upd v1.2.1 (ix v1.1) r21))), (a0_targetTraces, .inl (zI Z, 10, .inl (upd v1.2.2.1 (ix v1.1) r25))), (a0_tally, .inl (zI Z, 256, .inl (upd v1.2.2.2 (ix ((upd v1.2.1 (ix v1.1) r21) (ix v1.1))) 0))), (a1, .inr (2, [.ref a1_sets, .int (q2_points o1), .int (q2_facets o1)])), (a1_sets, .inl (zI Z, 10, .inl (q2_sets o1))), (a2, .inr (2, [.ref a2_sets, .int (q2_points o2), .int (q2_facets o2)])), (a2_sets, .inl (zI Z, 10, .inl (q2_sets o2)))] rfl dX4_agrees_68 ?_
    refine g_aload_n C dX4_agrees_69 rfl 0 rfl ?_
    refine g_get C 4 34 gin4 0 rfl rfl 7 (by decide) mw_1_170 rfl rfl dX4_agrees_70 ?_
    refine g_aload_n C dX4_agrees_73 rfl 0 rfl ?_
    refine g_get C 4 31 gin4 0 rfl rfl 6 (by decide) mw_1_169 rfl rfl dX4_agrees_74 ?_
    refine g_iload C dX4_agrees_77 4 rfl ?_
    obtain ⟨hi30, h⟩ := ck_of h
    refine g_iald C 4 rfl hi30 dX4_agrees_79 ?_
    refine g_iconst C 0 dX4_agrees_80 (by decide) ?_
    obtain ⟨hi31, h⟩ := ck_of h
    refine g_iast C 5 rfl hi31 [(a0, .inr (4, [.ref a0_image, .ref a0_order, .ref a0_allowed, .ref a0_signatures, .ref a0_targetSignatures, .ref a0_traces, .ref a0_targetTraces, .ref a0_tally])), (a0_image, .inl (zI Z, 8, .inl (q4_image o0))), (a0_order, .inl (zI Z, 8, .inl (q4_order o0))), (a0_traces, .inl (zI Z, 10, .inl (upd v1.2.1 (ix v1.1) r21))), (a0_targetTraces, .inl (zI Z, 10, .inl (upd v1.2.2.1 (ix v1.1) r25))), (a0_tally, .inl (zI Z, 256, .inl (upd (upd v1.2.2.2 (ix ((upd v1.2.1 (ix v1.1) r21) (ix v1.1))) 0) (ix ((upd v1.2.2.1 (ix v1.1) r25) (ix v1.1))) 0))), (a1, .inr (2, [.ref a1_sets, .int (q2_points o1), .int (q2_facets o1)])), (a1_sets, .inl (zI Z, 10, .inl (q2_sets o1))), (a2, .inr (2, [.ref a2_sets, .int (q2_points o2), .int (q2_facets o2)])), (a2_sets, .inl (zI Z, 10, .inl (q2_sets o2)))] rfl dX4_agrees_81 ?_
    refine g_iinc C (v1.1 + 1) dX4_agrees_82 4 rfl rfl (by decide) [(4, .int (v1.1 + 1)), (0, .ref a0), (1, .ref a1), (2, .ref a2), (3, .int p3)] rfl ?_
    refine g_goto C 3 dX4_agrees_85 (by decide) ?_
    refine g_lv [1, 2, 3, 4, 0] [(0, .ref a0), (1, .ref a1), (2, .ref a2), (3, .int p3), (4, .int (v1.1 + 1))] rfl ?_
    exact hk1 ((v1.1 + 1), (upd v1.2.1 (ix v1.1) r21), (upd v1.2.2.1 (ix v1.1) r25), (upd (upd v1.2.2.2 (ix ((upd v1.2.1 (ix v1.1) r21) (ix v1.1))) 0) (ix ((upd v1.2.2.1 (ix v1.1) r25) (ix v1.1))) 0)) (Option.some.inj h).symm
def fX4_goesTo_B (rec : (OX4) → (OX2) → (OX2) → Int32 → Int32 → Option (Int32 × OX4)) (o0 : OX4) (p1 : Int32) (o2 : OX2) (o3 : OX2) (p4 : Int32) (p5 : Int32) : Option (Int32 × OX4) :=
  ck (okI p4 8) (ck (okI ((q4_order o0) (ix p4)) 8) (if ((((q4_allowed o0) (ix ((q4_order o0) (ix p4)))) &&& (p5 ^^^ (-1))) &&& (jshl 1 p1)) = 0 then (some (0, o0))
  else (ck (okI p4 8) ((fX4_agrees (s4_image o0 (upd (q4_image o0) (ix p4) p1)) o2 o3 (p4 + 1)).bind fun r5 =>
  (if r5.1 = 0 then (some (0, (s4_tally (s4_targetTraces (s4_traces (s4_image o0 (upd (q4_image o0) (ix p4) p1)) (q4_traces r5.2)) (q4_targetTraces r5.2)) (q4_tally r5.2))))
  else ((rec (s4_tally (s4_targetTraces (s4_traces (s4_image o0 (upd (q4_image o0) (ix p4) p1)) (q4_traces r5.2)) (q4_targetTraces r5.2)) (q4_tally r5.2)) o2 o3 (p4 + 1) (p5 ||| (jshl 1 p1))).bind fun r8 =>
  (if r8.1 = 0 then (some (0, (s4_tally (s4_targetTraces (s4_traces (s4_image o0 (q4_image r8.2)) (q4_traces r8.2)) (q4_targetTraces r8.2)) (q4_tally r8.2))))
  else (some (1, (s4_tally (s4_targetTraces (s4_traces (s4_image o0 (q4_image r8.2)) (q4_traces r8.2)) (q4_targetTraces r8.2)) (q4_tally r8.2)))))))))))
def fX4_extend_L13 (rec : (OX4) → (OX2) → (OX2) → Int32 → Int32 → Option (Int32 × OX4)) (o0 : OX4) (o1 : OX2) (o2 : OX2) (p3 : Int32) (p4 : Int32) (v2 : Int32 × (Nat → Int32) × (Nat → Int32) × (Nat → Int32) × (Nat → Int32)) : Option ((Int32 × (Nat → Int32) × (Nat → Int32) × (Nat → Int32) × (Nat → Int32)) ⊕ (Int32 × OX4)) :=
  if (q2_points o2) ≤ v2.1 then (ex (some (0, (s4_tally (s4_targetTraces (s4_traces (s4_image o0 v2.2.1) v2.2.2.1) v2.2.2.2.1) v2.2.2.2.2))))
  else ((fX4_goesTo_B rec (s4_tally (s4_targetTraces (s4_traces (s4_image o0 v2.2.1) v2.2.2.1) v2.2.2.2.1) v2.2.2.2.2) v2.1 o1 o2 p3 p4).bind fun r5 =>
  (if r5.1 = 0 then (some (.inl ((v2.1 + 1), (q4_image r5.2), (q4_traces r5.2), (q4_targetTraces r5.2), (q4_tally r5.2))))
  else (ex (some (1, (s4_tally (s4_targetTraces (s4_traces (s4_image o0 (q4_image r5.2)) (q4_traces r5.2)) (q4_targetTraces r5.2)) (q4_tally r5.2)))))))
def fX4_extend_B (rec : (OX4) → (OX2) → (OX2) → Int32 → Int32 → Option (Int32 × OX4)) (o0 : OX4) (o1 : OX2) (o2 : OX2) (p3 : Int32) (p4 : Int32) : Option (Int32 × OX4) :=
  if p3 < (q2_points o1) then (lp (fX4_extend_L13 rec o0 o1 o2 p3 p4) lpN (0, (q4_image o0), (q4_traces o0), (q4_targetTraces o0), (q4_tally o0)))
  else (some (1, o0))
def fX4_extend : Nat → (OX4) → (OX2) → (OX2) → Int32 → Int32 → Option (Int32 × OX4)
  | 0 => fun _ _ _ _ _ => none
  | n + 1 => fX4_extend_B (fX4_extend n)
theorem myX4_extend : MYv yX4_extend cX4_extend 6 (some .boolean) 4 := ⟨mw_3_54, ms_16, mw_3_55, mw_1_7, ⟨by decide +kernel, by decide +kernel⟩, by decide +kernel⟩
theorem myX4_goesTo : MYv yX4_goesTo cX4_goesTo 7 (some .boolean) 5 := ⟨mw_3_58, ms_17, mw_3_59, mw_1_7, ⟨by decide +kernel, by decide +kernel⟩, by decide +kernel⟩
set_option maxRecDepth 100000 in
set_option maxHeartbeats 4000000 in
theorem kX4_goesTo (l : Launch) (Z : GZ) (n : Nat) (ih : ∀ (a0 a0_image a0_order a0_allowed a0_signatures a0_targetSignatures a0_traces a0_targetTraces a0_tally a1 a1_sets a2 a2_sets : Nat) (o0 : OX4) (o1 : OX2) (o2 : OX2) (p3 : Int32) (p4 : Int32) (res : Int32 × OX4) (h : fX4_extend n o0 o1 o2 p3 p4 = some res), MI l Z yX4_extend cX4_extend 6 .boolean (2 * n + 2) (n * 51 + 48) [.ref a0, .ref a1, .ref a2, .int p3, .int p4] [(a0, .inr (4, [.ref a0_image, .ref a0_order, .ref a0_allowed, .ref a0_signatures, .ref a0_targetSignatures, .ref a0_traces, .ref a0_targetTraces, .ref a0_tally])), (a0_image, .inl (zI Z, 8, .inl (q4_image o0))), (a0_order, .inl (zI Z, 8, .inl (q4_order o0))), (a0_allowed, .inl (zI Z, 8, .inl (q4_allowed o0))), (a0_traces, .inl (zI Z, 10, .inl (q4_traces o0))), (a0_targetTraces, .inl (zI Z, 10, .inl (q4_targetTraces o0))), (a0_tally, .inl (zI Z, 256, .inl (q4_tally o0))), (a1, .inr (2, [.ref a1_sets, .int (q2_points o1), .int (q2_facets o1)])), (a1_sets, .inl (zI Z, 10, .inl (q2_sets o1))), (a2, .inr (2, [.ref a2_sets, .int (q2_points o2), .int (q2_facets o2)])), (a2_sets, .inl (zI Z, 10, .inl (q2_sets o2)))] res.1 [(a0, .inr (4, [.ref a0_image, .ref a0_order, .ref a0_allowed, .ref a0_signatures, .ref a0_targetSignatures, .ref a0_traces, .ref a0_targetTraces, .ref a0_tally])), (a0_image, .inl (zI Z, 8, .inl (q4_image res.2))), (a0_order, .inl (zI Z, 8, .inl (q4_order o0))), (a0_allowed, .inl (zI Z, 8, .inl (q4_allowed o0))), (a0_traces, .inl (zI Z, 10, .inl (q4_traces res.2))), (a0_targetTraces, .inl (zI Z, 10, .inl (q4_targetTraces res.2))), (a0_tally, .inl (zI Z, 256, .inl (q4_tally res.2))), (a1, .inr (2, [.ref a1_sets, .int (q2_points o1), .int (q2_facets o1)])), (a1_sets, .inl (zI Z, 10, .inl (q2_sets o1))), (a2, .inr (2, [.ref a2_sets, .int (q2_points o2), .int (q2_facets o2)])), (a2_sets, .inl (zI Z, 10, .inl (q2_sets o2)))]) (a0 a0_image a0_order a0_allowed a0_signatures a0_targetSignatures a0_traces a0_targetTraces a0_tally a2 a2_sets a3 a3_sets : Nat) (o0 : OX4) (p1 : Int32) (o2 : OX2) (o3 : OX2) (p4 : Int32) (p5 : Int32) (res : Int32 × OX4) (h : fX4_goesTo_B (fX4_extend n) o0 p1 o2 o3 p4 p5 = some res) : MI l Z yX4_goesTo cX4_goesTo 7 .boolean (2 * n + 3) (n * 51 + 73) [.ref a0, .int p1, .ref a2, .ref a3, .int p4, .int p5] [(a0, .inr (4, [.ref a0_image, .ref a0_order, .ref a0_allowed, .ref a0_signatures, .ref a0_targetSignatures, .ref a0_traces, .ref a0_targetTraces, .ref a0_tally])), (a0_image, .inl (zI Z, 8, .inl (q4_image o0))), (a0_order, .inl (zI Z, 8, .inl (q4_order o0))), (a0_allowed, .inl (zI Z, 8, .inl (q4_allowed o0))), (a0_traces, .inl (zI Z, 10, .inl (q4_traces o0))), (a0_targetTraces, .inl (zI Z, 10, .inl (q4_targetTraces o0))), (a0_tally, .inl (zI Z, 256, .inl (q4_tally o0))), (a2, .inr (2, [.ref a2_sets, .int (q2_points o2), .int (q2_facets o2)])), (a2_sets, .inl (zI Z, 10, .inl (q2_sets o2))), (a3, .inr (2, [.ref a3_sets, .int (q2_points o3), .int (q2_facets o3)])), (a3_sets, .inl (zI Z, 10, .inl (q2_sets o3)))] res.1 [(a0, .inr (4, [.ref a0_image, .ref a0_order, .ref a0_allowed, .ref a0_signatures, .ref a0_targetSignatures, .ref a0_traces, .ref a0_targetTraces, .ref a0_tally])), (a0_image, .inl (zI Z, 8, .inl (q4_image res.2))), (a0_order, .inl (zI Z, 8, .inl (q4_order o0))), (a0_allowed, .inl (zI Z, 8, .inl (q4_allowed o0))), (a0_traces, .inl (zI Z, 10, .inl (q4_traces res.2))), (a0_targetTraces, .inl (zI Z, 10, .inl (q4_targetTraces res.2))), (a0_tally, .inl (zI Z, 256, .inl (q4_tally res.2))), (a2, .inr (2, [.ref a2_sets, .int (q2_points o2), .int (q2_facets o2)])), (a2_sets, .inl (zI Z, 10, .inl (q2_sets o2))), (a3, .inr (2, [.ref a3_sets, .int (q2_points o3), .int (q2_facets o3)])), (a3_sets, .inl (zI Z, 10, .inl (q2_sets o3)))] := by
  refine MI_of (by decide +kernel) (Nat.le_of_ble_eq_true rfl) (fun {p e s m args below meth c} A R hR Q hQ C hr hlk => ?_)
  unfold fX4_goesTo_B at h
  refine g_lv [0, 1, 2, 3, 4, 5] [(0, .ref a0), (1, .int p1), (2, .ref a2), (3, .ref a3), (4, .int p4), (5, .int p5)] rfl ?_
  refine g_iconst C 1 dX4_goesTo_0 (by decide) ?_
  refine g_iload_n C dX4_goesTo_1 rfl 1 rfl ?_
  refine g_ishl C dX4_goesTo_2 ?_
  refine g_istore C dX4_goesTo_3 (by decide) [(6, .int (jshl 1 p1)), (0, .ref a0), (1, .int p1), (2, .ref a2), (3, .ref a3), (4, .int p4), (5, .int p5)] rfl ?_
  refine g_aload_n C dX4_goesTo_5 rfl 1 rfl ?_
  refine g_get C 4 18 gin4 0 rfl rfl 2 (by decide) mw_1_165 rfl rfl dX4_goesTo_6 ?_
  refine g_aload_n C dX4_goesTo_9 rfl 1 rfl ?_
  refine g_get C 4 15 gin4 0 rfl rfl 1 (by decide) mw_1_164 rfl rfl dX4_goesTo_10 ?_
  refine g_iload C dX4_goesTo_13 5 rfl ?_
  obtain ⟨hi1, h⟩ := ck_of h
  refine g_iald C 2 rfl hi1 dX4_goesTo_15 ?_
  obtain ⟨hi2, h⟩ := ck_of h
  refine g_iald C 3 rfl hi2 dX4_goesTo_16 ?_
  refine g_iload C dX4_goesTo_17 6 rfl ?_
  refine g_iconst C (-1) dX4_goesTo_19 (by decide) ?_
  refine g_ixor C dX4_goesTo_20 ?_
  refine g_iand C dX4_goesTo_21 ?_
  refine g_iload C dX4_goesTo_22 0 rfl ?_
  refine g_iand C dX4_goesTo_24 ?_
  refine g_if_ne C 30 dX4_goesTo_25 (by decide) (fun c3 => ?_) (fun c3 => ?_)
  · replace h := it_f c3 h
    refine g_aload_n C dX4_goesTo_30 rfl 1 rfl ?_
    refine g_get C 4 9 gin4 0 rfl rfl 0 (by decide) mw_1_162 rfl rfl dX4_goesTo_31 ?_
    refine g_iload C dX4_goesTo_34 5 rfl ?_
    refine g_iload_n C dX4_goesTo_36 rfl 2 rfl ?_
    obtain ⟨hi4, h⟩ := ck_of h
    refine g_iast C 1 rfl hi4 [(a0, .inr (4, [.ref a0_image, .ref a0_order, .ref a0_allowed, .ref a0_signatures, .ref a0_targetSignatures, .ref a0_traces, .ref a0_targetTraces, .ref a0_tally])), (a0_image, .inl (zI Z, 8, .inl (upd (q4_image o0) (ix p4) p1))), (a0_order, .inl (zI Z, 8, .inl (q4_order o0))), (a0_allowed, .inl (zI Z, 8, .inl (q4_allowed o0))), (a0_traces, .inl (zI Z, 10, .inl (q4_traces o0))), (a0_targetTraces, .inl (zI Z, 10, .inl (q4_targetTraces o0))), (a0_tally, .inl (zI Z, 256, .inl (q4_tally o0))), (a2, .inr (2, [.ref a2_sets, .int (q2_points o2), .int (q2_facets o2)])), (a2_sets, .inl (zI Z, 10, .inl (q2_sets o2))), (a3, .inr (2, [.ref a3_sets, .int (q2_points o3), .int (q2_facets o3)])), (a3_sets, .inl (zI Z, 10, .inl (q2_sets o3)))] rfl dX4_goesTo_37 ?_
    refine g_aload_n C dX4_goesTo_38 rfl 1 rfl ?_
    refine g_aload_n C dX4_goesTo_39 rfl 3 rfl ?_
    refine g_aload_n C dX4_goesTo_40 rfl 4 rfl ?_
    refine g_iload C dX4_goesTo_41 5 rfl ?_
    refine g_iconst C 1 dX4_goesTo_43 (by decide) ?_
    refine g_iadd C dX4_goesTo_44 ?_
    obtain ⟨r5, hr6, h⟩ := bd_of h
    refine g_callVi C (kX4_agrees l Z a0 a0_image a0_order a0_allowed a0_signatures a0_targetSignatures a0_traces a0_targetTraces a0_tally a2 a2_sets a3 a3_sets (s4_image o0 (upd (q4_image o0) (ix p4) p1)) o2 o3 (p4 + 1) r5 hr6) 0 rfl (ci := 4) rfl rfl myX4_agrees 91 mw_3_60 rfl [0, 1, 2, 4, 5, 6, 7, 8, 9, 10] [3] [1, 2, 3, 0, 4, 5, 6, 7, 8, 9, 10] (wr := [(a0_allowed, .inl (zI Z, 8, .inl (q4_allowed o0)))]) rfl rfl (by decide) (by decide) (by decide) [(a0, .inr (4, [.ref a0_image, .ref a0_order, .ref a0_allowed, .ref a0_signatures, .ref a0_targetSignatures, .ref a0_traces, .ref a0_targetTraces, .ref a0_tally])), (a0_image, .inl (zI Z, 8, .inl (upd (q4_image o0) (ix p4) p1))), (a0_order, .inl (zI Z, 8, .inl (q4_order o0))), (a0_allowed, .inl (zI Z, 8, .inl (q4_allowed o0))), (a0_traces, .inl (zI Z, 10, .inl (q4_traces r5.2))), (a0_targetTraces, .inl (zI Z, 10, .inl (q4_targetTraces r5.2))), (a0_tally, .inl (zI Z, 256, .inl (q4_tally r5.2))), (a2, .inr (2, [.ref a2_sets, .int (q2_points o2), .int (q2_facets o2)])), (a2_sets, .inl (zI Z, 10, .inl (q2_sets o2))), (a3, .inr (2, [.ref a3_sets, .int (q2_points o3), .int (q2_facets o3)])), (a3_sets, .inl (zI Z, 10, .inl (q2_sets o3)))] rfl (by decide) (Nat.le_of_ble_eq_true rfl) (by rw [hR]; exact (by omega : 1 + 1 ≤ 2 * n + 3)) (by rw [hR]; exact (by omega : 8 + (5 + 11) + 24 ≤ n * 51 + 73)) ⟨by rw [hR]; exact Nat.le_of_ble_eq_true rfl, by rw [hR]; exact Nat.le_of_ble_eq_true rfl⟩ rfl dX4_goesTo_45 ?_
    refine g_if_eq C 73 dX4_goesTo_48 (by decide) (fun c7 => ?_) (fun c7 => ?_)
    · replace h := it_t c7 h
      refine g_iconst C 0 dX4_goesTo_73 (by decide) ?_
      obtain rfl := Option.some.inj h
      subst hQ
      exact g_zret C rfl (Or.inl rfl) hr hlk dX4_goesTo_74 [0, 1, 2, 3, 4, 5, 6, 7, 8, 9, 10] rfl (by decide)
    · replace h := it_f c7 h
      refine g_aload_n C dX4_goesTo_51 rfl 1 rfl ?_
      refine g_aload_n C dX4_goesTo_52 rfl 3 rfl ?_
      refine g_aload_n C dX4_goesTo_53 rfl 4 rfl ?_
      refine g_iload C dX4_goesTo_54 5 rfl ?_
      refine g_iconst C 1 dX4_goesTo_56 (by decide) ?_
      refine g_iadd C dX4_goesTo_57 ?_
      refine g_iload C dX4_goesTo_58 6 rfl ?_
      refine g_iload C dX4_goesTo_60 0 rfl ?_
      refine g_ior C dX4_goesTo_62 ?_
      obtain ⟨r8, hr9, h⟩ := bd_of h
      refine g_callVi C (ih a0 a0_image a0_order a0_allowed a0_signatures a0_targetSignatures a0_traces a0_targetTraces a0_tally a2 a2_sets a3 a3_sets (s4_tally (s4_targetTraces (s4_traces (s4_image o0 (upd (q4_image o0) (ix p4) p1)) (q4_traces r5.2)) (q4_targetTraces r5.2)) (q4_tally r5.2)) o2 o3 (p4 + 1) (p5 ||| (jshl 1 p1)) r8 hr9) 0 rfl (ci := 4) rfl rfl myX4_extend 83 mw_3_52 rfl [0, 1, 2, 3, 4, 5, 6, 7, 8, 9, 10] [] [0, 1, 2, 3, 4, 5, 6, 7, 8, 9, 10] (wr := []) rfl rfl (by decide) (by decide) (by decide) [(a0, .inr (4, [.ref a0_image, .ref a0_order, .ref a0_allowed, .ref a0_signatures, .ref a0_targetSignatures, .ref a0_traces, .ref a0_targetTraces, .ref a0_tally])), (a0_image, .inl (zI Z, 8, .inl (q4_image r8.2))), (a0_order, .inl (zI Z, 8, .inl (q4_order o0))), (a0_allowed, .inl (zI Z, 8, .inl (q4_allowed o0))), (a0_traces, .inl (zI Z, 10, .inl (q4_traces r8.2))), (a0_targetTraces, .inl (zI Z, 10, .inl (q4_targetTraces r8.2))), (a0_tally, .inl (zI Z, 256, .inl (q4_tally r8.2))), (a2, .inr (2, [.ref a2_sets, .int (q2_points o2), .int (q2_facets o2)])), (a2_sets, .inl (zI Z, 10, .inl (q2_sets o2))), (a3, .inr (2, [.ref a3_sets, .int (q2_points o3), .int (q2_facets o3)])), (a3_sets, .inl (zI Z, 10, .inl (q2_sets o3)))] rfl (by decide) (Nat.le_of_ble_eq_true rfl) (by rw [hR]; exact (by omega : (2 * n + 2) + 1 ≤ 2 * n + 3)) (by rw [hR]; exact (by omega : 8 + (6 + 11) + (n * 51 + 48) ≤ n * 51 + 73)) ⟨by rw [hR]; exact Nat.le_of_ble_eq_true rfl, by rw [hR]; exact Nat.le_of_ble_eq_true rfl⟩ rfl dX4_goesTo_63 ?_
      refine g_if_eq C 73 dX4_goesTo_66 (by decide) (fun c10 => ?_) (fun c10 => ?_)
      · replace h := it_t c10 h
        refine g_iconst C 0 dX4_goesTo_73 (by decide) ?_
        obtain rfl := Option.some.inj h
        subst hQ
        exact g_zret C rfl (Or.inl rfl) hr hlk dX4_goesTo_74 [0, 1, 2, 3, 4, 5, 6, 7, 8, 9, 10] rfl (by decide)
      · replace h := it_f c10 h
        refine g_iconst C 1 dX4_goesTo_69 (by decide) ?_
        refine g_goto C 74 dX4_goesTo_70 (by decide) ?_
        obtain rfl := Option.some.inj h
        subst hQ
        exact g_zret C rfl (Or.inr rfl) hr hlk dX4_goesTo_74 [0, 1, 2, 3, 4, 5, 6, 7, 8, 9, 10] rfl (by decide)
  · replace h := it_t c3 h
    refine g_iconst C 0 dX4_goesTo_28 (by decide) ?_
    obtain rfl := Option.some.inj h
    subst hQ
    exact g_zret C rfl (Or.inl rfl) hr hlk dX4_goesTo_29 [0, 1, 2, 3, 4, 5, 6, 7, 8, 9, 10] rfl (by decide)
set_option maxRecDepth 100000 in
set_option maxHeartbeats 4000000 in
theorem kX4_extend (l : Launch) (Z : GZ) : ∀ (n : Nat) (a0 a0_image a0_order a0_allowed a0_signatures a0_targetSignatures a0_traces a0_targetTraces a0_tally a1 a1_sets a2 a2_sets : Nat) (o0 : OX4) (o1 : OX2) (o2 : OX2) (p3 : Int32) (p4 : Int32) (res : Int32 × OX4) (h : fX4_extend n o0 o1 o2 p3 p4 = some res), MI l Z yX4_extend cX4_extend 6 .boolean (2 * n + 2) (n * 51 + 48) [.ref a0, .ref a1, .ref a2, .int p3, .int p4] [(a0, .inr (4, [.ref a0_image, .ref a0_order, .ref a0_allowed, .ref a0_signatures, .ref a0_targetSignatures, .ref a0_traces, .ref a0_targetTraces, .ref a0_tally])), (a0_image, .inl (zI Z, 8, .inl (q4_image o0))), (a0_order, .inl (zI Z, 8, .inl (q4_order o0))), (a0_allowed, .inl (zI Z, 8, .inl (q4_allowed o0))), (a0_traces, .inl (zI Z, 10, .inl (q4_traces o0))), (a0_targetTraces, .inl (zI Z, 10, .inl (q4_targetTraces o0))), (a0_tally, .inl (zI Z, 256, .inl (q4_tally o0))), (a1, .inr (2, [.ref a1_sets, .int (q2_points o1), .int (q2_facets o1)])), (a1_sets, .inl (zI Z, 10, .inl (q2_sets o1))), (a2, .inr (2, [.ref a2_sets, .int (q2_points o2), .int (q2_facets o2)])), (a2_sets, .inl (zI Z, 10, .inl (q2_sets o2)))] res.1 [(a0, .inr (4, [.ref a0_image, .ref a0_order, .ref a0_allowed, .ref a0_signatures, .ref a0_targetSignatures, .ref a0_traces, .ref a0_targetTraces, .ref a0_tally])), (a0_image, .inl (zI Z, 8, .inl (q4_image res.2))), (a0_order, .inl (zI Z, 8, .inl (q4_order o0))), (a0_allowed, .inl (zI Z, 8, .inl (q4_allowed o0))), (a0_traces, .inl (zI Z, 10, .inl (q4_traces res.2))), (a0_targetTraces, .inl (zI Z, 10, .inl (q4_targetTraces res.2))), (a0_tally, .inl (zI Z, 256, .inl (q4_tally res.2))), (a1, .inr (2, [.ref a1_sets, .int (q2_points o1), .int (q2_facets o1)])), (a1_sets, .inl (zI Z, 10, .inl (q2_sets o1))), (a2, .inr (2, [.ref a2_sets, .int (q2_points o2), .int (q2_facets o2)])), (a2_sets, .inl (zI Z, 10, .inl (q2_sets o2)))] := by
  intro n
  induction n with
  | zero => intro a0 a0_image a0_order a0_allowed a0_signatures a0_targetSignatures a0_traces a0_targetTraces a0_tally a1 a1_sets a2 a2_sets o0 o1 o2 p3 p4 res h; cases h
  | succ n ih =>
  intro a0 a0_image a0_order a0_allowed a0_signatures a0_targetSignatures a0_traces a0_targetTraces a0_tally a1 a1_sets a2 a2_sets o0 o1 o2 p3 p4 res h
  have h : fX4_extend_B (fX4_extend n) o0 o1 o2 p3 p4 = some res := h
  refine MI_of (by decide +kernel) (Nat.le_of_ble_eq_true rfl) (fun {p e s m args below meth c} A R hR Q hQ C hr hlk => ?_)
  unfold fX4_extend_B at h
  refine g_lv [0, 1, 2, 3, 4] [(0, .ref a0), (1, .ref a1), (2, .ref a2), (3, .int p3), (4, .int p4)] rfl ?_
  refine g_iload_n C dX4_extend_0 rfl 3 rfl ?_
  refine g_aload_n C dX4_extend_1 rfl 1 rfl ?_
  refine g_get C 2 41 gin2 7 rfl rfl 1 (by decide) mw_1_76 rfl rfl dX4_extend_2 ?_
  refine g_icmp_lt C 10 dX4_extend_5 (by decide) (fun c1 => ?_) (fun c1 => ?_)
  · replace h := it_t c1 h
    refine g_iconst C 0 dX4_extend_10 (by decide) ?_
    refine g_istore C dX4_extend_11 (by decide) [(5, .int 0), (0, .ref a0), (1, .ref a1), (2, .ref a2), (3, .int p3), (4, .int p4)] rfl ?_
    refine g_lv [1, 2, 3, 4, 5, 0] [(0, .ref a0), (1, .ref a1), (2, .ref a2), (3, .int p3), (4, .int p4), (5, .int 0)] rfl ?_
    refine g_loop (lvf := fun v2 => [(0, .ref a0), (1, .ref a1), (2, .ref a2), (3, .int p3), (4, .int p4), (5, .int v2.1)]) (wsf := fun v2 => [(a0, .inr (4, [.ref a0_image, .ref a0_order, .ref a0_allowed, .ref a0_signatures, .ref a0_targetSignatures, .ref a0_traces, .ref a0_targetTraces, .ref a0_tally])), (a0_image, .inl (zI Z, 8, .inl v2.2.1)), (a0_order, .inl (zI Z, 8, .inl (q4_order o0))), (a0_allowed, .inl (zI Z, 8, .inl (q4_allowed o0))), (a0_traces, .inl (zI Z, 10, .inl v2.2.2.1)), (a0_targetTraces, .inl (zI Z, 10, .inl v2.2.2.2.1)), (a0_tally, .inl (zI Z, 256, .inl v2.2.2.2.2)), (a1, .inr (2, [.ref a1_sets, .int (q2_points o1), .int (q2_facets o1)])), (a1_sets, .inl (zI Z, 10, .inl (q2_sets o1))), (a2, .inr (2, [.ref a2_sets, .int (q2_points o2), .int (q2_facets o2)])), (a2_sets, .inl (zI Z, 10, .inl (q2_sets o2)))]) h (fun v2 y1 h hk1 hx1 => ?_)
    refine g_eq (lv1 := [(0, .ref a0), (1, .ref a1), (2, .ref a2), (3, .int p3), (4, .int p4), (5, .int v2.1)]) (st1 := []) (ws1 := [(a0, .inr (4, [.ref a0_image, .ref a0_order, .ref a0_allowed, .ref a0_signatures, .ref a0_targetSignatures, .ref a0_traces, .ref a0_targetTraces, .ref a0_tally])), (a0_image, .inl (zI Z, 8, .inl v2.2.1)), (a0_order, .inl (zI Z, 8, .inl (q4_order o0))), (a0_allowed, .inl (zI Z, 8, .inl (q4_allowed o0))), (a0_traces, .inl (zI Z, 10, .inl v2.2.2.1)), (a0_targetTraces, .inl (zI Z, 10, .inl v2.2.2.2.1)), (a0_tally, .inl (zI Z, 256, .inl v2.2.2.2.2)), (a1, .inr (2, [.ref a1_sets, .int (q2_points o1), .int (q2_facets o1)])), (a1_sets, .inl (zI Z, 10, .inl (q2_sets o1))), (a2, .inr (2, [.ref a2_sets, .int (q2_points o2), .int (q2_facets o2)])), (a2_sets, .inl (zI Z, 10, .inl (q2_sets o2)))]) rfl rfl rfl rfl ?_
    unfold fX4_extend_L13 at h
    refine g_iload C dX4_extend_13 5 rfl ?_
    refine g_aload_n C dX4_extend_15 rfl 2 rfl ?_
    refine g_get C 2 41 gin2 9 rfl rfl 1 (by decide) mw_1_76 rfl rfl dX4_extend_16 ?_
    refine g_icmp_ge C 44 dX4_extend_19 (by decide) (fun c3 => ?_) (fun c3 => ?_)
    · replace h := it_t c3 h
      obtain ⟨r4, h, hy⟩ := ex_of h
      rw [hx1 r4 hy] at h
      refine g_iconst C 0 dX4_extend_44 (by decide) ?_
      obtain rfl := Option.some.inj h
      subst hQ
      exact g_zret C rfl (Or.inl rfl) hr hlk dX4_extend_45 [0, 1, 2, 3, 4, 5, 6, 7, 8, 9, 10] rfl (by decide)
    · replace h := it_f c3 h
      refine g_aload_n C dX4_extend_22 rfl 0 rfl ?_
      refine g_iload C dX4_extend_23 5 rfl ?_
      refine g_aload_n C dX4_extend_25 rfl 1 rfl ?_
      refine g_aload_n C dX4_extend_26 rfl 2 rfl ?_
      refine g_iload_n C dX4_extend_27 rfl 3 rfl ?_
      refine g_iload C dX4_extend_28 4 rfl ?_
      obtain ⟨r5, hr6, h⟩ := bd_of h
      refine g_callVi C (kX4_goesTo l Z n ih a0 a0_image a0_order a0_allowed a0_signatures a0_targetSignatures a0_traces a0_targetTraces a0_tally a1 a1_sets a2 a2_sets (s4_tally (s4_targetTraces (s4_traces (s4_image o0 v2.2.1) v2.2.2.1) v2.2.2.2.1) v2.2.2.2.2) v2.1 o1 o2 p3 p4 r5 hr6) 0 rfl (ci := 4) rfl rfl myX4_goesTo 87 mw_3_56 rfl [0, 1, 2, 3, 4, 5, 6, 7, 8, 9, 10] [] [0, 1, 2, 3, 4, 5, 6, 7, 8, 9, 10] (wr := []) rfl rfl (by decide) (by decide) (by decide) [(a0, .inr (4, [.ref a0_image, .ref a0_order, .ref a0_allowed, .ref a0_signatures, .ref a0_targetSignatures, .ref a0_traces, .ref a0_targetTraces, .ref a0_tally])), (a0_image, .inl (zI Z, 8, .inl (q4_image r5.2))), (a0_order, .inl (zI Z, 8, .inl (q4_order o0))), (a0_allowed, .inl (zI Z, 8, .inl (q4_allowed o0))), (a0_traces, .inl (zI Z, 10, .inl (q4_traces r5.2))), (a0_targetTraces, .inl (zI Z, 10, .inl (q4_targetTraces r5.2))), (a0_tally, .inl (zI Z, 256, .inl (q4_tally r5.2))), (a1, .inr (2, [.ref a1_sets, .int (q2_points o1), .int (q2_facets o1)])), (a1_sets, .inl (zI Z, 10, .inl (q2_sets o1))), (a2, .inr (2, [.ref a2_sets, .int (q2_points o2), .int (q2_facets o2)])), (a2_sets, .inl (zI Z, 10, .inl (q2_sets o2)))] rfl (by decide) (Nat.le_of_ble_eq_true rfl) (by rw [hR]; exact (by omega : (2 * n + 3) + 1 ≤ 2 * (n + 1) + 2)) (by rw [hR]; exact (by omega : 8 + (7 + 11) + (n * 51 + 73) ≤ (n + 1) * 51 + 48)) ⟨by rw [hR]; exact Nat.le_of_ble_eq_true rfl, by rw [hR]; exact Nat.le_of_ble_eq_true rfl⟩ rfl dX4_extend_30 ?_
      refine g_if_eq C 38 dX4_extend_33 (by decide) (fun c7 => ?_) (fun c7 => ?_)
      · replace h := it_t c7 h
        refine g_iinc C (v2.1 + 1) dX4_extend_38 5 rfl rfl (by decide) [(5, .int (v2.1 + 1)), (0, .ref a0), (1, .ref a1), (2, .ref a2), (3, .int p3), (4, .int p4)] rfl ?_
        refine g_goto C 13 dX4_extend_41 (by decide) ?_
        refine g_lv [1, 2, 3, 4, 5, 0] [(0, .ref a0), (1, .ref a1), (2, .ref a2), (3, .int p3), (4, .int p4), (5, .int (v2.1 + 1))] rfl ?_
        exact hk1 ((v2.1 + 1), (q4_image r5.2), (q4_traces r5.2), (q4_targetTraces r5.2), (q4_tally r5.2)) (Option.some.inj h).symm
      · replace h := it_f c7 h
        obtain ⟨r8, h, hy⟩ := ex_of h
        rw [hx1 r8 hy] at h
        refine g_iconst C 1 dX4_extend_36 (by decide) ?_
        obtain rfl := Option.some.inj h
        subst hQ
        exact g_zret C rfl (Or.inr rfl) hr hlk dX4_extend_37 [0, 1, 2, 3, 4, 5, 6, 7, 8, 9, 10] rfl (by decide)
  · replace h := it_f c1 h
    refine g_iconst C 1 dX4_extend_8 (by decide) ?_
    obtain rfl := Option.some.inj h
    subst hQ
    exact g_zret C rfl (Or.inr rfl) hr hlk dX4_extend_9 [0, 1, 2, 3, 4, 5, 6, 7, 8, 9, 10] rfl (by decide)
def fX4_search (o0 : OX4) (o1 : OX2) (o2 : OX2) : Option (Int32 × OX4) :=
  if (q2_points o1) = (q2_points o2) then (if (q2_facets o1) = (q2_facets o2) then ((fX4_extend 10 o0 o1 o2 0 0).bind fun r3 =>
  (if r3.1 = 0 then (some (0, (s4_tally (s4_targetTraces (s4_traces (s4_image o0 (q4_image r3.2)) (q4_traces r3.2)) (q4_targetTraces r3.2)) (q4_tally r3.2))))
  else (some (1, (s4_tally (s4_targetTraces (s4_traces (s4_image o0 (q4_image r3.2)) (q4_traces r3.2)) (q4_targetTraces r3.2)) (q4_tally r3.2))))))
  else (some (0, o0)))
  else (some (0, o0))
theorem myX4_search : MYv yX4_search cX4_search 3 (some .boolean) 2 := ⟨mw_3_50, ms_15, mw_3_51, mw_1_7, ⟨by decide +kernel, by decide +kernel⟩, by decide +kernel⟩
set_option maxRecDepth 100000 in
set_option maxHeartbeats 4000000 in
theorem kX4_search (l : Launch) (Z : GZ) (a0 a0_image a0_order a0_allowed a0_signatures a0_targetSignatures a0_traces a0_targetTraces a0_tally a1 a1_sets a2 a2_sets : Nat) (o0 : OX4) (o1 : OX2) (o2 : OX2) (res : Int32 × OX4) (h : fX4_search o0 o1 o2 = some res) : MI l Z yX4_search cX4_search 3 .boolean 23 583 [.ref a0, .ref a1, .ref a2] [(a0, .inr (4, [.ref a0_image, .ref a0_order, .ref a0_allowed, .ref a0_signatures, .ref a0_targetSignatures, .ref a0_traces, .ref a0_targetTraces, .ref a0_tally])), (a0_image, .inl (zI Z, 8, .inl (q4_image o0))), (a0_order, .inl (zI Z, 8, .inl (q4_order o0))), (a0_allowed, .inl (zI Z, 8, .inl (q4_allowed o0))), (a0_traces, .inl (zI Z, 10, .inl (q4_traces o0))), (a0_targetTraces, .inl (zI Z, 10, .inl (q4_targetTraces o0))), (a0_tally, .inl (zI Z, 256, .inl (q4_tally o0))), (a1, .inr (2, [.ref a1_sets, .int (q2_points o1), .int (q2_facets o1)])), (a1_sets, .inl (zI Z, 10, .inl (q2_sets o1))), (a2, .inr (2, [.ref a2_sets, .int (q2_points o2), .int (q2_facets o2)])), (a2_sets, .inl (zI Z, 10, .inl (q2_sets o2)))] res.1 [(a0, .inr (4, [.ref a0_image, .ref a0_order, .ref a0_allowed, .ref a0_signatures, .ref a0_targetSignatures, .ref a0_traces, .ref a0_targetTraces, .ref a0_tally])), (a0_image, .inl (zI Z, 8, .inl (q4_image res.2))), (a0_order, .inl (zI Z, 8, .inl (q4_order o0))), (a0_allowed, .inl (zI Z, 8, .inl (q4_allowed o0))), (a0_traces, .inl (zI Z, 10, .inl (q4_traces res.2))), (a0_targetTraces, .inl (zI Z, 10, .inl (q4_targetTraces res.2))), (a0_tally, .inl (zI Z, 256, .inl (q4_tally res.2))), (a1, .inr (2, [.ref a1_sets, .int (q2_points o1), .int (q2_facets o1)])), (a1_sets, .inl (zI Z, 10, .inl (q2_sets o1))), (a2, .inr (2, [.ref a2_sets, .int (q2_points o2), .int (q2_facets o2)])), (a2_sets, .inl (zI Z, 10, .inl (q2_sets o2)))] := by
  refine MI_of (by decide +kernel) (Nat.le_of_ble_eq_true rfl) (fun {p e s m args below meth c} A R hR Q hQ C hr hlk => ?_)
  unfold fX4_search at h
  refine g_lv [0, 1, 2] [(0, .ref a0), (1, .ref a1), (2, .ref a2)] rfl ?_
  refine g_aload_n C dX4_search_0 rfl 1 rfl ?_
  refine g_get C 2 41 gin2 7 rfl rfl 1 (by decide) mw_1_76 rfl rfl dX4_search_1 ?_
  refine g_aload_n C dX4_search_4 rfl 2 rfl ?_
  refine g_get C 2 41 gin2 9 rfl rfl 1 (by decide) mw_1_76 rfl rfl dX4_search_5 ?_
  refine g_icmp_ne C 37 dX4_search_8 (by decide) (fun c1 => ?_) (fun c1 => ?_)
  · replace h := it_f c1 h
    refine g_iconst C 0 dX4_search_37 (by decide) ?_
    obtain rfl := Option.some.inj h
    subst hQ
    exact g_zret C rfl (Or.inl rfl) hr hlk dX4_search_38 [0, 1, 2, 3, 4, 5, 6, 7, 8, 9, 10] rfl (by decide)
  · replace h := it_t c1 h
    refine g_aload_n C dX4_search_11 rfl 1 rfl ?_
    refine g_get C 2 73 gin2 7 rfl rfl 2 (by decide) mw_1_83 rfl rfl dX4_search_12 ?_
    refine g_aload_n C dX4_search_15 rfl 2 rfl ?_
    refine g_get C 2 73 gin2 9 rfl rfl 2 (by decide) mw_1_83 rfl rfl dX4_search_16 ?_
    refine g_icmp_ne C 37 dX4_search_19 (by decide) (fun c2 => ?_) (fun c2 => ?_)
    · replace h := it_f c2 h
      refine g_iconst C 0 dX4_search_37 (by decide) ?_
      obtain rfl := Option.some.inj h
      subst hQ
      exact g_zret C rfl (Or.inl rfl) hr hlk dX4_search_38 [0, 1, 2, 3, 4, 5, 6, 7, 8, 9, 10] rfl (by decide)
    · replace h := it_t c2 h
      refine g_aload_n C dX4_search_22 rfl 0 rfl ?_
      refine g_aload_n C dX4_search_23 rfl 1 rfl ?_
      refine g_aload_n C dX4_search_24 rfl 2 rfl ?_
      refine g_iconst C 0 dX4_search_25 (by decide) ?_
      refine g_iconst C 0 dX4_search_26 (by decide) ?_
      obtain ⟨r3, hr4, h⟩ := bd_of h
      refine g_callVi C (kX4_extend l Z 10 a0 a0_image a0_order a0_allowed a0_signatures a0_targetSignatures a0_traces a0_targetTraces a0_tally a1 a1_sets a2 a2_sets o0 o1 o2 0 0 r3 hr4) 0 rfl (ci := 4) rfl rfl myX4_extend 83 mw_3_52 rfl [0, 1, 2, 3, 4, 5, 6, 7, 8, 9, 10] [] [0, 1, 2, 3, 4, 5, 6, 7, 8, 9, 10] (wr := []) rfl rfl (by decide) (by decide) (by decide) [(a0, .inr (4, [.ref a0_image, .ref a0_order, .ref a0_allowed, .ref a0_signatures, .ref a0_targetSignatures, .ref a0_traces, .ref a0_targetTraces, .ref a0_tally])), (a0_image, .inl (zI Z, 8, .inl (q4_image r3.2))), (a0_order, .inl (zI Z, 8, .inl (q4_order o0))), (a0_allowed, .inl (zI Z, 8, .inl (q4_allowed o0))), (a0_traces, .inl (zI Z, 10, .inl (q4_traces r3.2))), (a0_targetTraces, .inl (zI Z, 10, .inl (q4_targetTraces r3.2))), (a0_tally, .inl (zI Z, 256, .inl (q4_tally r3.2))), (a1, .inr (2, [.ref a1_sets, .int (q2_points o1), .int (q2_facets o1)])), (a1_sets, .inl (zI Z, 10, .inl (q2_sets o1))), (a2, .inr (2, [.ref a2_sets, .int (q2_points o2), .int (q2_facets o2)])), (a2_sets, .inl (zI Z, 10, .inl (q2_sets o2)))] rfl (by decide) (Nat.le_of_ble_eq_true rfl) (by rw [hR]; exact Nat.le_of_ble_eq_true rfl) (by rw [hR]; exact Nat.le_of_ble_eq_true rfl) ⟨by rw [hR]; exact Nat.le_of_ble_eq_true rfl, by rw [hR]; exact Nat.le_of_ble_eq_true rfl⟩ rfl dX4_search_27 ?_
      refine g_if_eq C 37 dX4_search_30 (by decide) (fun c5 => ?_) (fun c5 => ?_)
      · replace h := it_t c5 h
        refine g_iconst C 0 dX4_search_37 (by decide) ?_
        obtain rfl := Option.some.inj h
        subst hQ
        exact g_zret C rfl (Or.inl rfl) hr hlk dX4_search_38 [0, 1, 2, 3, 4, 5, 6, 7, 8, 9, 10] rfl (by decide)
      · replace h := it_f c5 h
        refine g_iconst C 1 dX4_search_33 (by decide) ?_
        refine g_goto C 38 dX4_search_34 (by decide) ?_
        obtain rfl := Option.some.inj h
        subst hQ
        exact g_zret C rfl (Or.inr rfl) hr hlk dX4_search_38 [0, 1, 2, 3, 4, 5, 6, 7, 8, 9, 10] rfl (by decide)
def fX4_signaturesMatch_L2 (o0 : OX4) (p1 : Int32) (v1 : Int32) : Option ((Int32) ⊕ (Int32)) :=
  if p1 ≤ v1 then (ex (some 1))
  else (ck (okI v1 8) ((fX4_alike ((q4_signatures o0) (ix v1)) (q4_signatures o0) p1).bind fun r5 =>
  ((fJ6_bitCount_0f7a4 r5).bind fun r7 =>
  (ck (okI v1 8) ((fJ6_bitCount_0f7a4 ((q4_allowed o0) (ix v1))).bind fun r10 =>
  (if r7 = r10 then (some (.inl (v1 + 1)))
  else (ex (some 0))))))))
def fX4_signaturesMatch (o0 : OX4) (p1 : Int32) : Option (Int32) :=
  lp (fX4_signaturesMatch_L2 o0 p1) lpN 0
theorem myX4_signaturesMatch : MYv yX4_signaturesMatch cX4_signaturesMatch 4 (some .boolean) 1 := ⟨mw_5_70, ms_32, mw_5_71, mw_1_7, ⟨by decide +kernel, by decide +kernel⟩, by decide +kernel⟩
set_option maxRecDepth 100000 in
set_option maxHeartbeats 4000000 in
theorem kX4_signaturesMatch (l : Launch) (Z : GZ) (a0 a0_image a0_order a0_allowed a0_signatures a0_targetSignatures a0_traces a0_targetTraces a0_tally : Nat) (o0 : OX4) (p1 : Int32) (res : Int32) (h : fX4_signaturesMatch o0 p1 = some res) : MI l Z yX4_signaturesMatch cX4_signaturesMatch 4 .boolean 1 25 [.ref a0, .int p1] [(a0, .inr (4, [.ref a0_image, .ref a0_order, .ref a0_allowed, .ref a0_signatures, .ref a0_targetSignatures, .ref a0_traces, .ref a0_targetTraces, .ref a0_tally])), (a0_allowed, .inl (zI Z, 8, .inl (q4_allowed o0))), (a0_signatures, .inl (zJ Z, 8, .inr (.inl (q4_signatures o0))))] res [(a0, .inr (4, [.ref a0_image, .ref a0_order, .ref a0_allowed, .ref a0_signatures, .ref a0_targetSignatures, .ref a0_traces, .ref a0_targetTraces, .ref a0_tally])), (a0_allowed, .inl (zI Z, 8, .inl (q4_allowed o0))), (a0_signatures, .inl (zJ Z, 8, .inr (.inl (q4_signatures o0))))] := by
  refine MI_of (by decide +kernel) (Nat.le_of_ble_eq_true rfl) (fun {p e s m args below meth c} A R hR Q hQ C hr hlk => ?_)
  unfold fX4_signaturesMatch at h
  refine g_lv [0, 1] [(0, .ref a0), (1, .int p1)] rfl ?_
  refine g_iconst C 0 dX4_signaturesMatch_0 (by decide) ?_
  refine g_istore_n C dX4_signaturesMatch_1 rfl (by decide) [(2, .int 0), (0, .ref a0), (1, .int p1)] rfl ?_
  refine g_lv [1, 2, 0] [(0, .ref a0), (1, .int p1), (2, .int 0)] rfl ?_
  refine g_loop (lvf := fun v1 => [(0, .ref a0), (1, .int p1), (2, .int v1)]) (wsf := fun v1 => [(a0, .inr (4, [.ref a0_image, .ref a0_order, .ref a0_allowed, .ref a0_signatures, .ref a0_targetSignatures, .ref a0_traces, .ref a0_targetTraces, .ref a0_tally])), (a0_allowed, .inl (zI Z, 8, .inl (q4_allowed o0))), (a0_signatures, .inl (zJ Z, 8, .inr (.inl (q4_signatures o0))))]) h (fun v1 y1 h hk1 hx1 => ?_)
  refine g_eq (lv1 := [(0, .ref a0), (1, .int p1), (2, .int v1)]) (st1 := []) (ws1 := [(a0, .inr (4, [.ref a0_image, .ref a0_order, .ref a0_allowed, .ref a0_signatures, .ref a0_targetSignatures, .ref a0_traces, .ref a0_targetTraces, .ref a0_tally])), (a0_allowed, .inl (zI Z, 8, .inl (q4_allowed o0))), (a0_signatures, .inl (zJ Z, 8, .inr (.inl (q4_signatures o0))))]) rfl rfl rfl rfl ?_
  unfold fX4_signaturesMatch_L2 at h
  refine g_iload_n C dX4_signaturesMatch_2 rfl 2 rfl ?_
  refine g_iload_n C dX4_signaturesMatch_3 rfl 1 rfl ?_
  refine g_icmp_ge C 46 dX4_signaturesMatch_4 (by decide) (fun c2 => ?_) (fun c2 => ?_)
  · replace h := it_t c2 h
    obtain ⟨r3, h, hy⟩ := ex_of h
    rw [hx1 r3 hy] at h
    refine g_iconst C 1 dX4_signaturesMatch_46 (by decide) ?_
    obtain rfl := Option.some.inj h
    subst hQ
    exact g_zret C rfl (Or.inr rfl) hr hlk dX4_signaturesMatch_47 [0, 1, 2] rfl (by decide)
  · replace h := it_f c2 h
    refine g_aload_n C dX4_signaturesMatch_7 rfl 0 rfl ?_
    refine g_get C 4 21 gin4 0 rfl rfl 3 (by decide) mw_1_166 rfl rfl dX4_signaturesMatch_8 ?_
    refine g_iload_n C dX4_signaturesMatch_11 rfl 2 rfl ?_
    obtain ⟨hi4, h⟩ := ck_of h
    refine g_lald C 2 rfl hi4 dX4_signaturesMatch_12 ?_
    refine g_aload_n C dX4_signaturesMatch_13 rfl 0 rfl ?_
    refine g_get C 4 21 gin4 0 rfl rfl 3 (by decide) mw_1_166 rfl rfl dX4_signaturesMatch_14 ?_
    refine g_iload_n C dX4_signaturesMatch_17 rfl 1 rfl ?_
    obtain ⟨r5, hr6, h⟩ := bd_of h
    refine g_callSi C (kX4_alike l Z a0_signatures ((q4_signatures o0) (ix v1)) (q4_signatures o0) p1 r5 hr6) myX4_alike 69 mw_3_41 rfl [2] [0, 1] [0, 1, 2] (wr := [(a0, .inr (4, [.ref a0_image, .ref a0_order, .ref a0_allowed, .ref a0_signatures, .ref a0_targetSignatures, .ref a0_traces, .ref a0_targetTraces, .ref a0_tally])), (a0_allowed, .inl (zI Z, 8, .inl (q4_allowed o0)))]) rfl rfl (by decide) (by decide) (by decide) [(a0, .inr (4, [.ref a0_image, .ref a0_order, .ref a0_allowed, .ref a0_signatures, .ref a0_targetSignatures, .ref a0_traces, .ref a0_targetTraces, .ref a0_tally])), (a0_allowed, .inl (zI Z, 8, .inl (q4_allowed o0))), (a0_signatures, .inl (zJ Z, 8, .inr (.inl (q4_signatures o0))))] rfl (by decide) (Nat.le_of_ble_eq_true rfl) (by rw [hR]; exact Nat.le_of_ble_eq_true rfl) (by rw [hR]; exact Nat.le_of_ble_eq_true rfl) ⟨by rw [hR]; exact Nat.le_of_ble_eq_true rfl, by rw [hR]; exact Nat.le_of_ble_eq_true rfl⟩ rfl dX4_signaturesMatch_18 ?_
    refine g_istore_n C dX4_signaturesMatch_21 rfl (by decide) [(3, .int r5), (0, .ref a0), (1, .int p1), (2, .int v1)] rfl ?_
    refine g_iload_n C dX4_signaturesMatch_22 rfl 0 rfl ?_
    obtain ⟨r7, hr8, h⟩ := bd_of h
    refine g_callSi C (kJ6_bitCount_0f7a4 l Z r5 r7 hr8) myJ6_bitCount_0f7a4 59 mw_3_40 rfl [] [0, 1, 2] [0, 1, 2] (wr := [(a0, .inr (4, [.ref a0_image, .ref a0_order, .ref a0_allowed, .ref a0_signatures, .ref a0_targetSignatures, .ref a0_traces, .ref a0_targetTraces, .ref a0_tally])), (a0_allowed, .inl (zI Z, 8, .inl (q4_allowed o0))), (a0_signatures, .inl (zJ Z, 8, .inr (.inl (q4_signatures o0))))]) rfl rfl (by decide) (by decide) (by decide) [(a0, .inr (4, [.ref a0_image, .ref a0_order, .ref a0_allowed, .ref a0_signatures, .ref a0_targetSignatures, .ref a0_traces, .ref a0_targetTraces, .ref a0_tally])), (a0_allowed, .inl (zI Z, 8, .inl (q4_allowed o0))), (a0_signatures, .inl (zJ Z, 8, .inr (.inl (q4_signatures o0))))] rfl (by decide) (Nat.le_of_ble_eq_true rfl) (by rw [hR]; exact Nat.le_of_ble_eq_true rfl) (by rw [hR]; exact Nat.le_of_ble_eq_true rfl) ⟨by rw [hR]; exact Nat.le_of_ble_eq_true rfl, by rw [hR]; exact Nat.le_of_ble_eq_true rfl⟩ rfl dX4_signaturesMatch_23 ?_
    refine g_aload_n C dX4_signaturesMatch_26 rfl 1 rfl ?_
    refine g_get C 4 18 gin4 0 rfl rfl 2 (by decide) mw_1_165 rfl rfl dX4_signaturesMatch_27 ?_
    refine g_iload_n C dX4_signaturesMatch_30 rfl 3 rfl ?_
    obtain ⟨hi9, h⟩ := ck_of h
    refine g_iald C 1 rfl hi9 dX4_signaturesMatch_31 ?_
    obtain ⟨r10, hr11, h⟩ := bd_of h
    refine g_callSi C (kJ6_bitCount_0f7a4 l Z ((q4_allowed o0) (ix v1)) r10 hr11) myJ6_bitCount_0f7a4 59 mw_3_40 rfl [] [0, 1, 2] [0, 1, 2] (wr := [(a0, .inr (4, [.ref a0_image, .ref a0_order, .ref a0_allowed, .ref a0_signatures, .ref a0_targetSignatures, .ref a0_traces, .ref a0_targetTraces, .ref a0_tally])), (a0_allowed, .inl (zI Z, 8, .inl (q4_allowed o0))), (a0_signatures, .inl (zJ Z, 8, .inr (.inl (q4_signatures o0))))]) rfl rfl (by decide) (by decide) (by decide) [(a0, .inr (4, [.ref a0_image, .ref a0_order, .ref a0_allowed, .ref a0_signatures, .ref a0_targetSignatures, .ref a0_traces, .ref a0_targetTraces, .ref a0_tally])), (a0_allowed, .inl (zI Z, 8, .inl (q4_allowed o0))), (a0_signatures, .inl (zJ Z, 8, .inr (.inl (q4_signatures o0))))] rfl (by decide) (Nat.le_of_ble_eq_true rfl) (by rw [hR]; exact Nat.le_of_ble_eq_true rfl) (by rw [hR]; exact Nat.le_of_ble_eq_true rfl) ⟨by rw [hR]; exact Nat.le_of_ble_eq_true rfl, by rw [hR]; exact Nat.le_of_ble_eq_true rfl⟩ rfl dX4_signaturesMatch_32 ?_
    refine g_icmp_eq C 40 dX4_signaturesMatch_35 (by decide) (fun c12 => ?_) (fun c12 => ?_)
    · replace h := it_t c12 h
      refine g_iinc C (v1 + 1) dX4_signaturesMatch_40 3 rfl rfl (by decide) [(2, .int (v1 + 1)), (3, .int r5), (0, .ref a0), (1, .int p1)] rfl ?_
      refine g_goto C 2 dX4_signaturesMatch_43 (by decide) ?_
      refine g_lv [2, 3, 0] [(0, .ref a0), (1, .int p1), (2, .int (v1 + 1))] rfl ?_
      exact hk1 (v1 + 1) (Option.some.inj h).symm
    · replace h := it_f c12 h
      obtain ⟨r13, h, hy⟩ := ex_of h
      rw [hx1 r13 hy] at h
      refine g_iconst C 0 dX4_signaturesMatch_38 (by decide) ?_
      obtain rfl := Option.some.inj h
      subst hQ
      exact g_zret C rfl (Or.inl rfl) hr hlk dX4_signaturesMatch_39 [0, 1, 2] rfl (by decide)
def fX4_begin_J58 (o2 : OX2) (r1 : (Nat → Int64)) (r3 : (Nat → Int64)) (v5 : Int32 × (Nat → Int32) × (Nat → Int32)) (x8 : Int32) : Option ((Int32 × (Nat → Int32) × (Nat → Int32)) ⊕ (OX4)) :=
  ck (okI v5.1 8) (ck (okI v5.1 8) ((fX4_alike (r1 (ix v5.1)) r3 (q2_points o2)).bind fun r11 =>
  (ck (okI v5.1 8) (some (.inl ((v5.1 + 1), (upd v5.2.1 (ix v5.1) x8), (upd v5.2.2 (ix v5.1) r11)))))))
def fX4_begin_L19 (o0 : OX4) (o1 : OX2) (o2 : OX2) (p3 : Int32) (r1 : (Nat → Int64)) (r3 : (Nat → Int64)) (v5 : Int32 × (Nat → Int32) × (Nat → Int32)) : Option ((Int32 × (Nat → Int32) × (Nat → Int32)) ⊕ (OX4)) :=
  if (q2_points o1) ≤ v5.1 then (ex (some (s4_targetSignatures (s4_signatures (s4_allowed (s4_order o0 v5.2.1) v5.2.2) r1) r3)))
  else (if v5.1 = 0 then (fX4_begin_J58 o2 r1 r3 v5 p3)
  else (if p3 < v5.1 then (fX4_begin_J58 o2 r1 r3 v5 v5.1)
  else (fX4_begin_J58 o2 r1 r3 v5 (v5.1 - 1))))
def fX4_begin (o0 : OX4) (o1 : OX2) (o2 : OX2) (p3 : Int32) : Option (OX4) :=
  (fX4_sign o1 (q4_signatures o0)).bind fun r1 =>
  ((fX4_sign o2 (q4_targetSignatures o0)).bind fun r3 =>
  (lp (fX4_begin_L19 o0 o1 o2 p3 r1 r3) lpN (0, (q4_order o0), (q4_allowed o0))))
theorem myX4_begin : MYv yX4_begin cX4_begin 5 none 3 := ⟨mw_3_31, ms_13, mw_3_32, mw_1_7, ⟨by decide +kernel, by decide +kernel⟩, by decide +kernel⟩
set_option maxRecDepth 100000 in
set_option maxHeartbeats 4000000 in
theorem kX4_begin (l : Launch) (Z : GZ) (a0 a0_image a0_order a0_allowed a0_signatures a0_targetSignatures a0_traces a0_targetTraces a0_tally a1 a1_sets a2 a2_sets : Nat) (o0 : OX4) (o1 : OX2) (o2 : OX2) (p3 : Int32) (res : OX4) (h : fX4_begin o0 o1 o2 p3 = some res) : MV l Z yX4_begin cX4_begin 5 2 45 [.ref a0, .ref a1, .ref a2, .int p3] [(a0, .inr (4, [.ref a0_image, .ref a0_order, .ref a0_allowed, .ref a0_signatures, .ref a0_targetSignatures, .ref a0_traces, .ref a0_targetTraces, .ref a0_tally])), (a0_order, .inl (zI Z, 8, .inl (q4_order o0))), (a0_allowed, .inl (zI Z, 8, .inl (q4_allowed o0))), (a0_signatures, .inl (zJ Z, 8, .inr (.inl (q4_signatures o0)))), (a0_targetSignatures, .inl (zJ Z, 8, .inr (.inl (q4_targetSignatures o0)))), (a1, .inr (2, [.ref a1_sets, .int (q2_points o1), .int (q2_facets o1)])), (a1_sets, .inl (zI Z, 10, .inl (q2_sets o1))), (a2, .inr (2, [.ref a2_sets, .int (q2_points o2), .int (q2_facets o2)])), (a2_sets, .inl (zI Z, 10, .inl (q2_sets o2)))] [(a0, .inr (4, [.ref a0_image, .ref a0_order, .ref a0_allowed, .ref a0_signatures, .ref a0_targetSignatures, .ref a0_traces, .ref a0_targetTraces, .ref a0_tally])), (a0_order, .inl (zI Z, 8, .inl (q4_order res))), (a0_allowed, .inl (zI Z, 8, .inl (q4_allowed res))), (a0_signatures, .inl (zJ Z, 8, .inr (.inl (q4_signatures res)))), (a0_targetSignatures, .inl (zJ Z, 8, .inr (.inl (q4_targetSignatures res)))), (a1, .inr (2, [.ref a1_sets, .int (q2_points o1), .int (q2_facets o1)])), (a1_sets, .inl (zI Z, 10, .inl (q2_sets o1))), (a2, .inr (2, [.ref a2_sets, .int (q2_points o2), .int (q2_facets o2)])), (a2_sets, .inl (zI Z, 10, .inl (q2_sets o2)))] := by
  refine MV_of (by decide +kernel) (Nat.le_of_ble_eq_true rfl) (fun {p e s m args below meth c} A R hR Q hQ C hr hlk => ?_)
  unfold fX4_begin at h
  refine g_lv [0, 1, 2, 3] [(0, .ref a0), (1, .ref a1), (2, .ref a2), (3, .int p3)] rfl ?_
  refine g_aload_n C dX4_begin_0 rfl 1 rfl ?_
  refine g_aload_n C dX4_begin_1 rfl 0 rfl ?_
  refine g_get C 4 21 gin4 0 rfl rfl 3 (by decide) mw_1_166 rfl rfl dX4_begin_2 ?_
  obtain ⟨r1, hr2, h⟩ := bd_of h
  refine g_callSv C (kX4_sign l Z a1 a1_sets a0_signatures o1 (q4_signatures o0) r1 hr2) myX4_sign 65 mw_3_33 rfl [5, 6, 3] [0, 1, 2, 4, 7, 8] [0, 1, 2, 8, 3, 6, 7, 4, 5] (wr := [(a0, .inr (4, [.ref a0_image, .ref a0_order, .ref a0_allowed, .ref a0_signatures, .ref a0_targetSignatures, .ref a0_traces, .ref a0_targetTraces, .ref a0_tally])), (a0_order, .inl (zI Z, 8, .inl (q4_order o0))), (a0_allowed, .inl (zI Z, 8, .inl (q4_allowed o0))), (a0_targetSignatures, .inl (zJ Z, 8, .inr (.inl (q4_targetSignatures o0)))), (a2, .inr (2, [.ref a2_sets, .int (q2_points o2), .int (q2_facets o2)])), (a2_sets, .inl (zI Z, 10, .inl (q2_sets o2)))]) rfl rfl (by decide) (by decide) (by decide) [(a0, .inr (4, [.ref a0_image, .ref a0_order, .ref a0_allowed, .ref a0_signatures, .ref a0_targetSignatures, .ref a0_traces, .ref a0_targetTraces, .ref a0_tally])), (a0_order, .inl (zI Z, 8, .inl (q4_order o0))), (a0_allowed, .inl (zI Z, 8, .inl (q4_allowed o0))), (a0_signatures, .inl (zJ Z, 8, .inr (.inl r1))), (a0_targetSignatures, .inl (zJ Z, 8, .inr (.inl (q4_targetSignatures o0)))), (a1, .inr (2, [.ref a1_sets, .int (q2_points o1), .int (q2_facets o1)])), (a1_sets, .inl (zI Z, 10, .inl (q2_sets o1))), (a2, .inr (2, [.ref a2_sets, .int (q2_points o2), .int (q2_facets o2)])), (a2_sets, .inl (zI Z, 10, .inl (q2_sets o2)))] rfl (by decide) (Nat.le_of_ble_eq_true rfl) (by rw [hR]; exact Nat.le_of_ble_eq_true rfl) (by rw [hR]; exact Nat.le_of_ble_eq_true rfl) ⟨by rw [hR]; exact Nat.le_of_ble_eq_true rfl, by rw [hR]; exact Nat.le_of_ble_eq_true rfl⟩ rfl dX4_begin_5 ?_
  refine g_aload_n C dX4_begin_8 rfl 2 rfl ?_
  refine g_aload_n C dX4_begin_9 rfl 0 rfl ?_
  refine g_get C 4 25 gin4 0 rfl rfl 4 (by decide) mw_1_167 rfl rfl dX4_begin_10 ?_
  obtain ⟨r3, hr4, h⟩ := bd_of h
  refine g_callSv C (kX4_sign l Z a2 a2_sets a0_targetSignatures o2 (q4_targetSignatures o0) r3 hr4) myX4_sign 65 mw_3_33 rfl [7, 8, 4] [0, 1, 2, 3, 5, 6] [0, 1, 2, 3, 8, 4, 5, 6, 7] (wr := [(a0, .inr (4, [.ref a0_image, .ref a0_order, .ref a0_allowed, .ref a0_signatures, .ref a0_targetSignatures, .ref a0_traces, .ref a0_targetTraces, .ref a0_tally])), (a0_order, .inl (zI Z, 8, .inl (q4_order o0))), (a0_allowed, .inl (zI Z, 8, .inl (q4_allowed o0))), (a0_signatures, .inl (zJ Z, 8, .inr (.inl r1))), (a1, .inr (2, [.ref a1_sets, .int (q2_points o1), .int (q2_facets o1)])), (a1_sets, .inl (zI Z, 10, .inl (q2_sets o1)))]) rfl rfl (by decide) (by decide) (by decide) [(a0, .inr (4, [.ref a0_image, .ref a0_order, .ref a0_allowed, .ref a0_signatures, .ref a0_targetSignatures, .ref a0_traces, .ref a0_targetTraces, .ref a0_tally])), (a0_order, .inl (zI Z, 8, .inl (q4_order o0))), (a0_allowed, .inl (zI Z, 8, .inl (q4_allowed o0))), (a0_signatures, .inl (zJ Z, 8, .inr (.inl r1))), (a0_targetSignatures, .inl (zJ Z, 8, .inr (.inl r3))), (a1, .inr (2, [.ref a1_sets, .int (q2_points o1), .int (q2_facets o1)])), (a1_sets, .inl (zI Z, 10, .inl (q2_sets o1))), (a2, .inr (2, [.ref a2_sets, .int (q2_points o2), .int (q2_facets o2)])), (a2_sets, .inl (zI Z, 10, .inl (q2_sets o2)))] rfl (by decide) (Nat.le_of_ble_eq_true rfl) (by rw [hR]; exact Nat.le_of_ble_eq_true rfl) (by rw [hR]; exact Nat.le_of_ble_eq_true rfl) ⟨by rw [hR]; exact Nat.le_of_ble_eq_true rfl, by rw [hR]; exact Nat.le_of_ble_eq_true rfl⟩ rfl dX4_begin_13 ?_
  refine g_iconst C 0 dX4_begin_16 (by decide) ?_
  refine g_istore C dX4_begin_17 (by decide) [(4, .int 0), (0, .ref a0), (1, .ref a1), (2, .ref a2), (3, .int p3)] rfl ?_
  refine g_lv [1, 2, 3, 4, 0] [(0, .ref a0), (1, .ref a1), (2, .ref a2), (3, .int p3), (4, .int 0)] rfl ?_
  refine g_loop (lvf := fun v5 => [(0, .ref a0), (1, .ref a1), (2, .ref a2), (3, .int p3), (4, .int v5.1)]) (wsf := fun v5 => [(a0, .inr (4, [.ref a0_image, .ref a0_order, .ref a0_allowed, .ref a0_signatures, .ref a0_targetSignatures, .ref a0_traces, .ref a0_targetTraces, .ref a0_tally])), (a0_order, .inl (zI Z, 8, .inl v5.2.1)), (a0_allowed, .inl (zI Z, 8, .inl v5.2.2)), (a0_signatures, .inl (zJ Z, 8, .inr (.inl r1))), (a0_targetSignatures, .inl (zJ Z, 8, .inr (.inl r3))), (a1, .inr (2, [.ref a1_sets, .int (q2_points o1), .int (q2_facets o1)])), (a1_sets, .inl (zI Z, 10, .inl (q2_sets o1))), (a2, .inr (2, [.ref a2_sets, .int (q2_points o2), .int (q2_facets o2)])), (a2_sets, .inl (zI Z, 10, .inl (q2_sets o2)))]) h (fun v5 y1 h hk1 hx1 => ?_)
  refine g_eq (lv1 := [(0, .ref a0), (1, .ref a1), (2, .ref a2), (3, .int p3), (4, .int v5.1)]) (st1 := []) (ws1 := [(a0, .inr (4, [.ref a0_image, .ref a0_order, .ref a0_allowed, .ref a0_signatures, .ref a0_targetSignatures, .ref a0_traces, .ref a0_targetTraces, .ref a0_tally])), (a0_order, .inl (zI Z, 8, .inl v5.2.1)), (a0_allowed, .inl (zI Z, 8, .inl v5.2.2)), (a0_signatures, .inl (zJ Z, 8, .inr (.inl r1))), (a0_targetSignatures, .inl (zJ Z, 8, .inr (.inl r3))), (a1, .inr (2, [.ref a1_sets, .int (q2_points o1), .int (q2_facets o1)])), (a1_sets, .inl (zI Z, 10, .inl (q2_sets o1))), (a2, .inr (2, [.ref a2_sets, .int (q2_points o2), .int (q2_facets o2)])), (a2_sets, .inl (zI Z, 10, .inl (q2_sets o2)))]) rfl rfl rfl rfl ?_
  unfold fX4_begin_L19 at h
  refine g_iload C dX4_begin_19 4 rfl ?_
  refine g_aload_n C dX4_begin_21 rfl 1 rfl ?_
  refine g_get C 2 41 gin2 5 rfl rfl 1 (by decide) mw_1_76 rfl rfl dX4_begin_22 ?_
  refine g_icmp_ge C 90 dX4_begin_25 (by decide) (fun c6 => ?_) (fun c6 => ?_)
  · replace h := it_t c6 h
    obtain ⟨r7, h, hy⟩ := ex_of h
    rw [hx1 r7 hy] at h
    obtain rfl := Option.some.inj h
    subst hQ
    exact g_vret C hr hlk dX4_begin_90 [0, 1, 2, 3, 4, 5, 6, 7, 8] rfl (by decide)
  · replace h := it_f c6 h
    refine g_aload_n C dX4_begin_28 rfl 0 rfl ?_
    refine g_get C 4 15 gin4 0 rfl rfl 1 (by decide) mw_1_164 rfl rfl dX4_begin_29 ?_
    refine g_iload C dX4_begin_32 4 rfl ?_
    refine g_iload C dX4_begin_34 4 rfl ?_
    have hj58 : ∀ (x8 : Int32), fX4_begin_J58 o2 r1 r3 v5 x8 = some y1 → Gw p l e R s m args below meth c 5 Z A Q 0 0 58 [(0, .ref a0), (1, .ref a1), (2, .ref a2), (3, .int p3), (4, .int v5.1)] [.int x8, .int v5.1, .ref a0_order] [(a0, .inr (4, [.ref a0_image, .ref a0_order, .ref a0_allowed, .ref a0_signatures, .ref a0_targetSignatures, .ref a0_traces, .ref a0_targetTraces, .ref a0_tally])), (a0_order, .inl (zI Z, 8, .inl v5.2.1)), (a0_allowed, .inl (zI Z, 8, .inl v5.2.2)), (a0_signatures, .inl (zJ Z, 8, .inr (.inl r1))), (a0_targetSignatures, .inl (zJ Z, 8, .inr (.inl r3))), (a1, .inr (2, [.ref a1_sets, .int (q2_points o1), .int (q2_facets o1)])), (a1_sets, .inl (zI Z, 10, .inl (q2_sets o1))), (a2, .inr (2, [.ref a2_sets, .int (q2_points o2), .int (q2_facets o2)])), (a2_sets, .inl (zI Z, 10, .inl (q2_sets o2)))] := by
      intro x8 h
      unfold fX4_begin_J58 at h
      obtain ⟨hi9, h⟩ := ck_of h
      refine g_iast C 1 rfl hi9 [(a0, .inr (4, [.ref a0_image, .ref a0_order, .ref a0_allowed, .ref a0_signatures, .ref a0_targetSignatures, .ref a0_traces, .ref a0_targetTraces, .ref a0_tally])), (a0_order, .inl (zI Z, 8, .inl (upd v5.2.1 (ix v5.1) x8))), (a0_allowed, .inl (zI Z, 8, .inl v5.2.2)), (a0_signatures, .inl (zJ Z, 8, .inr (.inl r1))), (a0_targetSignatures, .inl (zJ Z, 8, .inr (.inl r3))), (a1, .inr (2, [.ref a1_sets, .int (q2_points o1), .int (q2_facets o1)])), (a1_sets, .inl (zI Z, 10, .inl (q2_sets o1))), (a2, .inr (2, [.ref a2_sets, .int (q2_points o2), .int (q2_facets o2)])), (a2_sets, .inl (zI Z, 10, .inl (q2_sets o2)))] rfl dX4_begin_58 ?_
      refine g_aload_n C dX4_begin_59 rfl 0 rfl ?_
      refine g_get C 4 18 gin4 0 rfl rfl 2 (by decide) mw_1_165 rfl rfl dX4_begin_60 ?_
      refine g_iload C dX4_begin_63 4 rfl ?_
      refine g_aload_n C dX4_begin_65 rfl 0 rfl ?_
      refine g_get C 4 21 gin4 0 rfl rfl 3 (by decide) mw_1_166 rfl rfl dX4_begin_66 ?_
      refine g_iload C dX4_begin_69 4 rfl ?_
      obtain ⟨hi10, h⟩ := ck_of h
      refine g_lald C 3 rfl hi10 dX4_begin_71 ?_
      refine g_aload_n C dX4_begin_72 rfl 0 rfl ?_
      refine g_get C 4 25 gin4 0 rfl rfl 4 (by decide) mw_1_167 rfl rfl dX4_begin_73 ?_
      refine g_aload_n C dX4_begin_76 rfl 2 rfl ?_
      refine g_get C 2 41 gin2 7 rfl rfl 1 (by decide) mw_1_76 rfl rfl dX4_begin_77 ?_
      obtain ⟨r11, hr12, h⟩ := bd_of h
      refine g_callSi C (kX4_alike l Z a0_targetSignatures (r1 (ix v5.1)) r3 (q2_points o2) r11 hr12) myX4_alike 69 mw_3_41 rfl [4] [0, 1, 2, 3, 5, 6, 7, 8] [0, 1, 2, 3, 8, 4, 5, 6, 7] (wr := [(a0, .inr (4, [.ref a0_image, .ref a0_order, .ref a0_allowed, .ref a0_signatures, .ref a0_targetSignatures, .ref a0_traces, .ref a0_targetTraces, .ref a0_tally])), (a0_order, .inl (zI Z, 8, .inl (upd v5.2.1 (ix v5.1) x8))), (a0_allowed, .inl (zI Z, 8, .inl v5.2.2)), (a0_signatures, .inl (zJ Z, 8, .inr (.inl r1))), (a1, .inr (2, [.ref a1_sets, .int (q2_points o1), .int (q2_facets o1)])), (a1_sets, .inl (zI Z, 10, .inl (q2_sets o1))), (a2, .inr (2, [.ref a2_sets, .int (q2_points o2), .int (q2_facets o2)])), (a2_sets, .inl (zI Z, 10, .inl (q2_sets o2)))]) rfl rfl (by decide) (by decide) (by decide) [(a0, .inr (4, [.ref a0_image, .ref a0_order, .ref a0_allowed, .ref a0_signatures, .ref a0_targetSignatures, .ref a0_traces, .ref a0_targetTraces, .ref a0_tally])), (a0_order, .inl (zI Z, 8, .inl (upd v5.2.1 (ix v5.1) x8))), (a0_allowed, .inl (zI Z, 8, .inl v5.2.2)), (a0_signatures, .inl (zJ Z, 8, .inr (.inl r1))), (a0_targetSignatures, .inl (zJ Z, 8, .inr (.inl r3))), (a1, .inr (2, [.ref a1_sets, .int (q2_points o1), .int (q2_facets o1)])), (a1_sets, .inl (zI Z, 10, .inl (q2_sets o1))), (a2, .inr (2, [.ref a2_sets, .int (q2_points o2), .int (q2_facets o2)])), (a2_sets, .inl (zI Z, 10, .inl (q2_sets o2)))] rfl (by decide) (Nat.le_of_ble_eq_true rfl) (by rw [hR]; exact Nat.le_of_ble_eq_true rfl) (by rw [hR]; exact Nat.le_of_ble_eq_true rfl) ⟨by rw [hR]; exact Nat.le_of_ble_eq_true rfl, by rw [hR]; exact Nat.le_of_ble_eq_true rfl⟩ rfl dX4_begin_80 ?_
      obtain ⟨hi13, h⟩ := ck_of h
      refine g_iast C 2 rfl hi13 [(a0, .inr (4, [.ref a0_image, .ref a0_order, .ref a0_allowed, .ref a0_signatures, .ref a0_targetSignatures, .ref a0_traces, .ref a0_targetTraces, .ref a0_tally])), (a0_order, .inl (zI Z, 8, .inl (upd v5.2.1 (ix v5.1) x8))), (a0_allowed, .inl (zI Z, 8, .inl (upd v5.2.2 (ix v5.1) r11))), (a0_signatures, .inl (zJ Z, 8, .inr (.inl r1))), (a0_targetSignatures, .inl (zJ Z, 8, .inr (.inl r3))), (a1, .inr (2, [.ref a1_sets, .int (q2_points o1), .int (q2_facets o1)])), (a1_sets, .inl (zI Z, 10, .inl (q2_sets o1))), (a2, .inr (2, [.ref a2_sets, .int (q2_points o2), .int (q2_facets o2)])), (a2_sets, .inl (zI Z, 10, .inl (q2_sets o2)))] rfl dX4_begin_83 ?_
      refine g_iinc C (v5.1 + 1) dX4_begin_84 4 rfl rfl (by decide) [(4, .int (v5.1 + 1)), (0, .ref a0), (1, .ref a1), (2, .ref a2), (3, .int p3)] rfl ?_
      refine g_goto C 19 dX4_begin_87 (by decide) ?_
      refine g_lv [1, 2, 3, 4, 0] [(0, .ref a0), (1, .ref a1), (2, .ref a2), (3, .int p3), (4, .int (v5.1 + 1))] rfl ?_
      exact hk1 ((v5.1 + 1), (upd v5.2.1 (ix v5.1) x8), (upd v5.2.2 (ix v5.1) r11)) (Option.some.inj h).symm
    refine g_if_ne C 43 dX4_begin_36 (by decide) (fun c14 => ?_) (fun c14 => ?_)
    · replace h := it_f c14 h
      refine g_iload C dX4_begin_43 4 rfl ?_
      refine g_iload_n C dX4_begin_45 rfl 3 rfl ?_
      refine g_icmp_gt C 56 dX4_begin_46 (by decide) (fun c15 => ?_) (fun c15 => ?_)
      · replace h := it_t c15 h
        refine g_iload C dX4_begin_56 4 rfl ?_
        exact hj58 v5.1 h
      · replace h := it_f c15 h
        refine g_iload C dX4_begin_49 4 rfl ?_
        refine g_iconst C 1 dX4_begin_51 (by decide) ?_
        refine g_isub C dX4_begin_52 ?_
        refine g_goto C 58 dX4_begin_53 (by decide) ?_
        exact hj58 (v5.1 - 1) h
    · replace h := it_t c14 h
      refine g_iload_n C dX4_begin_39 rfl 3 rfl ?_
      refine g_goto C 58 dX4_begin_40 (by decide) ?_
      exact hj58 p3 h
def fX4_find (o0 : OX4) (o1 : OX2) (o2 : OX2) : Option (Int32 × OX4) :=
  (fX4_begin o0 o1 o2 0).bind fun r1 =>
  ((fX4_signaturesMatch (s4_targetSignatures (s4_signatures (s4_allowed (s4_order o0 (q4_order r1)) (q4_allowed r1)) (q4_signatures r1)) (q4_targetSignatures r1)) (q2_points o1)).bind fun r3 =>
  (if r3 = 0 then (some (0, (s4_targetSignatures (s4_signatures (s4_allowed (s4_order o0 (q4_order r1)) (q4_allowed r1)) (q4_signatures r1)) (q4_targetSignatures r1))))
  else ((fX4_search (s4_targetSignatures (s4_signatures (s4_allowed (s4_order o0 (q4_order r1)) (q4_allowed r1)) (q4_signatures r1)) (q4_targetSignatures r1)) o1 o2).bind fun r6 =>
  (if r6.1 = 0 then (some (0, (s4_tally (s4_targetTraces (s4_traces (s4_targetSignatures (s4_signatures (s4_allowed (s4_order (s4_image o0 (q4_image r6.2)) (q4_order r1)) (q4_allowed r1)) (q4_signatures r1)) (q4_targetSignatures r1)) (q4_traces r6.2)) (q4_targetTraces r6.2)) (q4_tally r6.2))))
  else (some (1, (s4_tally (s4_targetTraces (s4_traces (s4_targetSignatures (s4_signatures (s4_allowed (s4_order (s4_image o0 (q4_image r6.2)) (q4_order r1)) (q4_allowed r1)) (q4_signatures r1)) (q4_targetSignatures r1)) (q4_traces r6.2)) (q4_targetTraces r6.2)) (q4_tally r6.2))))))))
theorem myX4_find : MYv yX4_find cX4_find 3 (some .boolean) 2 := ⟨mw_5_65, mw_5_66, mw_5_67, mw_1_7, ⟨by decide +kernel, by decide +kernel⟩, by decide +kernel⟩
set_option maxRecDepth 100000 in
set_option maxHeartbeats 4000000 in
theorem kX4_find (l : Launch) (Z : GZ) (a0 a0_image a0_order a0_allowed a0_signatures a0_targetSignatures a0_traces a0_targetTraces a0_tally a1 a1_sets a2 a2_sets : Nat) (o0 : OX4) (o1 : OX2) (o2 : OX2) (res : Int32 × OX4) (h : fX4_find o0 o1 o2 = some res) : MI l Z yX4_find cX4_find 3 .boolean 24 605 [.ref a0, .ref a1, .ref a2] [(a0, .inr (4, [.ref a0_image, .ref a0_order, .ref a0_allowed, .ref a0_signatures, .ref a0_targetSignatures, .ref a0_traces, .ref a0_targetTraces, .ref a0_tally])), (a0_image, .inl (zI Z, 8, .inl (q4_image o0))), (a0_order, .inl (zI Z, 8, .inl (q4_order o0))), (a0_allowed, .inl (zI Z, 8, .inl (q4_allowed o0))), (a0_signatures, .inl (zJ Z, 8, .inr (.inl (q4_signatures o0)))), (a0_targetSignatures, .inl (zJ Z, 8, .inr (.inl (q4_targetSignatures o0)))), (a0_traces, .inl (zI Z, 10, .inl (q4_traces o0))), (a0_targetTraces, .inl (zI Z, 10, .inl (q4_targetTraces o0))), (a0_tally, .inl (zI Z, 256, .inl (q4_tally o0))), (a1, .inr (2, [.ref a1_sets, .int (q2_points o1), .int (q2_facets o1)])), (a1_sets, .inl (zI Z, 10, .inl (q2_sets o1))), (a2, .inr (2, [.ref a2_sets, .int (q2_points o2), .int (q2_facets o2)])), (a2_sets, .inl (zI Z, 10, .inl (q2_sets o2)))] res.1 [(a0, .inr (4, [.ref a0_image, .ref a0_order, .ref a0_allowed, .ref a0_signatures, .ref a0_targetSignatures, .ref a0_traces, .ref a0_targetTraces, .ref a0_tally])), (a0_image, .inl (zI Z, 8, .inl (q4_image res.2))), (a0_order, .inl (zI Z, 8, .inl (q4_order res.2))), (a0_allowed, .inl (zI Z, 8, .inl (q4_allowed res.2))), (a0_signatures, .inl (zJ Z, 8, .inr (.inl (q4_signatures res.2)))), (a0_targetSignatures, .inl (zJ Z, 8, .inr (.inl (q4_targetSignatures res.2)))), (a0_traces, .inl (zI Z, 10, .inl (q4_traces res.2))), (a0_targetTraces, .inl (zI Z, 10, .inl (q4_targetTraces res.2))), (a0_tally, .inl (zI Z, 256, .inl (q4_tally res.2))), (a1, .inr (2, [.ref a1_sets, .int (q2_points o1), .int (q2_facets o1)])), (a1_sets, .inl (zI Z, 10, .inl (q2_sets o1))), (a2, .inr (2, [.ref a2_sets, .int (q2_points o2), .int (q2_facets o2)])), (a2_sets, .inl (zI Z, 10, .inl (q2_sets o2)))] := by
  refine MI_of (by decide +kernel) (Nat.le_of_ble_eq_true rfl) (fun {p e s m args below meth c} A R hR Q hQ C hr hlk => ?_)
  unfold fX4_find at h
  refine g_lv [0, 1, 2] [(0, .ref a0), (1, .ref a1), (2, .ref a2)] rfl ?_
  refine g_aload_n C dX4_find_0 rfl 0 rfl ?_
  refine g_aload_n C dX4_find_1 rfl 1 rfl ?_
  refine g_aload_n C dX4_find_2 rfl 2 rfl ?_
  refine g_iconst C 0 dX4_find_3 (by decide) ?_
  obtain ⟨r1, hr2, h⟩ := bd_of h
  refine g_callVv C (kX4_begin l Z a0 a0_image a0_order a0_allowed a0_signatures a0_targetSignatures a0_traces a0_targetTraces a0_tally a1 a1_sets a2 a2_sets o0 o1 o2 0 r1 hr2) 0 rfl (ci := 4) rfl rfl myX4_begin 37 mw_3_29 rfl [0, 2, 3, 4, 5, 9, 10, 11, 12] [1, 6, 7, 8] [4, 0, 5, 6, 7, 8, 1, 2, 3, 9, 10, 11, 12] (wr := [(a0_image, .inl (zI Z, 8, .inl (q4_image o0))), (a0_traces, .inl (zI Z, 10, .inl (q4_traces o0))), (a0_targetTraces, .inl (zI Z, 10, .inl (q4_targetTraces o0))), (a0_tally, .inl (zI Z, 256, .inl (q4_tally o0)))]) rfl rfl (by decide) (by decide) (by decide) [(a0, .inr (4, [.ref a0_image, .ref a0_order, .ref a0_allowed, .ref a0_signatures, .ref a0_targetSignatures, .ref a0_traces, .ref a0_targetTraces, .ref a0_tally])), (a0_image, .inl (zI Z, 8, .inl (q4_image o0))), (a0_order, .inl (zI Z, 8, .inl (q4_order r1))), (a0_allowed, .inl (zI Z, 8, .inl (q4_allowed r1))), (a0_signatures, .inl (zJ Z, 8, .inr (.inl (q4_signatures r1)))), (a0_targetSignatures, .inl (zJ Z, 8, .inr (.inl (q4_targetSignatures r1)))), (a0_traces, .inl (zI Z, 10, .inl (q4_traces o0))), (a0_targetTraces, .inl (zI Z, 10, .inl (q4_targetTraces o0))), (a0_tally, .inl (zI Z, 256, .inl (q4_tally o0))), (a1, .inr (2, [.ref a1_sets, .int (q2_points o1), .int (q2_facets o1)])), (a1_sets, .inl (zI Z, 10, .inl (q2_sets o1))), (a2, .inr (2, [.ref a2_sets, .int (q2_points o2), .int (q2_facets o2)])), (a2_sets, .inl (zI Z, 10, .inl (q2_sets o2)))] rfl (by decide) (Nat.le_of_ble_eq_true rfl) (by rw [hR]; exact Nat.le_of_ble_eq_true rfl) (by rw [hR]; exact Nat.le_of_ble_eq_true rfl) ⟨by rw [hR]; exact Nat.le_of_ble_eq_true rfl, by rw [hR]; exact Nat.le_of_ble_eq_true rfl⟩ rfl dX4_find_4 ?_
  refine g_aload_n C dX4_find_7 rfl 0 rfl ?_
  refine g_aload_n C dX4_find_8 rfl 1 rfl ?_
  refine g_get C 2 41 gin2 9 rfl rfl 1 (by decide) mw_1_76 rfl rfl dX4_find_9 ?_
  obtain ⟨r3, hr4, h⟩ := bd_of h
  refine g_callVi C (kX4_signaturesMatch l Z a0 a0_image a0_order a0_allowed a0_signatures a0_targetSignatures a0_traces a0_targetTraces a0_tally (s4_targetSignatures (s4_signatures (s4_allowed (s4_order o0 (q4_order r1)) (q4_allowed r1)) (q4_signatures r1)) (q4_targetSignatures r1)) (q2_points o1) r3 hr4) 0 rfl (ci := 4) rfl rfl myX4_signaturesMatch 47 mw_5_68 rfl [0, 3, 4] [1, 2, 5, 6, 7, 8, 9, 10, 11, 12] [10, 0, 1, 11, 12, 2, 3, 4, 5, 6, 7, 8, 9] (wr := [(a0_image, .inl (zI Z, 8, .inl (q4_image o0))), (a0_order, .inl (zI Z, 8, .inl (q4_order r1))), (a0_targetSignatures, .inl (zJ Z, 8, .inr (.inl (q4_targetSignatures r1)))), (a0_traces, .inl (zI Z, 10, .inl (q4_traces o0))), (a0_targetTraces, .inl (zI Z, 10, .inl (q4_targetTraces o0))), (a0_tally, .inl (zI Z, 256, .inl (q4_tally o0))), (a1, .inr (2, [.ref a1_sets, .int (q2_points o1), .int (q2_facets o1)])), (a1_sets, .inl (zI Z, 10, .inl (q2_sets o1))), (a2, .inr (2, [.ref a2_sets, .int (q2_points o2), .int (q2_facets o2)])), (a2_sets, .inl (zI Z, 10, .inl (q2_sets o2)))]) rfl rfl (by decide) (by decide) (by decide) [(a0, .inr (4, [.ref a0_image, .ref a0_order, .ref a0_allowed, .ref a0_signatures, .ref a0_targetSignatures, .ref a0_traces, .ref a0_targetTraces, .ref a0_tally])), (a0_image, .inl (zI Z, 8, .inl (q4_image o0))), (a0_order, .inl (zI Z, 8, .inl (q4_order r1))), (a0_allowed, .inl (zI Z, 8, .inl (q4_allowed r1))), (a0_signatures, .inl (zJ Z, 8, .inr (.inl (q4_signatures r1)))), (a0_targetSignatures, .inl (zJ Z, 8, .inr (.inl (q4_targetSignatures r1)))), (a0_traces, .inl (zI Z, 10, .inl (q4_traces o0))), (a0_targetTraces, .inl (zI Z, 10, .inl (q4_targetTraces o0))), (a0_tally, .inl (zI Z, 256, .inl (q4_tally o0))), (a1, .inr (2, [.ref a1_sets, .int (q2_points o1), .int (q2_facets o1)])), (a1_sets, .inl (zI Z, 10, .inl (q2_sets o1))), (a2, .inr (2, [.ref a2_sets, .int (q2_points o2), .int (q2_facets o2)])), (a2_sets, .inl (zI Z, 10, .inl (q2_sets o2)))] rfl (by decide) (Nat.le_of_ble_eq_true rfl) (by rw [hR]; exact Nat.le_of_ble_eq_true rfl) (by rw [hR]; exact Nat.le_of_ble_eq_true rfl) ⟨by rw [hR]; exact Nat.le_of_ble_eq_true rfl, by rw [hR]; exact Nat.le_of_ble_eq_true rfl⟩ rfl dX4_find_12 ?_
  refine g_if_eq C 31 dX4_find_15 (by decide) (fun c5 => ?_) (fun c5 => ?_)
  · replace h := it_t c5 h
    refine g_iconst C 0 dX4_find_31 (by decide) ?_
    obtain rfl := Option.some.inj h
    subst hQ
    exact g_zret C rfl (Or.inl rfl) hr hlk dX4_find_32 [0, 1, 2, 3, 4, 5, 6, 7, 8, 9, 10, 11, 12] rfl (by decide)
  · replace h := it_f c5 h
    refine g_aload_n C dX4_find_18 rfl 0 rfl ?_
    refine g_aload_n C dX4_find_19 rfl 1 rfl ?_
    refine g_aload_n C dX4_find_20 rfl 2 rfl ?_
    obtain ⟨r6, hr7, h⟩ := bd_of h
    refine g_callVi C (kX4_search l Z a0 a0_image a0_order a0_allowed a0_signatures a0_targetSignatures a0_traces a0_targetTraces a0_tally a1 a1_sets a2 a2_sets (s4_targetSignatures (s4_signatures (s4_allowed (s4_order o0 (q4_order r1)) (q4_allowed r1)) (q4_signatures r1)) (q4_targetSignatures r1)) o1 o2 r6 hr7) 0 rfl (ci := 4) rfl rfl myX4_search 51 mw_3_48 rfl [0, 1, 2, 3, 6, 7, 8, 9, 10, 11, 12] [4, 5] [2, 3, 4, 5, 0, 1, 6, 7, 8, 9, 10, 11, 12] (wr := [(a0_signatures, .inl (zJ Z, 8, .inr (.inl (q4_signatures r1)))), (a0_targetSignatures, .inl (zJ Z, 8, .inr (.inl (q4_targetSignatures r1))))]) rfl rfl (by decide) (by decide) (by decide) [(a0, .inr (4, [.ref a0_image, .ref a0_order, .ref a0_allowed, .ref a0_signatures, .ref a0_targetSignatures, .ref a0_traces, .ref a0_targetTraces, .ref a0_tally])), (a0_image, .inl (zI Z, 8, .inl (q4_image r6.2))), (a0_order, .inl (zI Z, 8, .inl (q4_order r1))), (a0_allowed, .inl (zI Z, 8, .inl (q4_allowed r1))), (a0_signatures, .inl (zJ Z, 8, .inr (.inl (q4_signatures r1)))), (a0_targetSignatures, .inl (zJ Z, 8, .inr (.inl (q4_targetSignatures r1)))), (a0_traces, .inl (zI Z, 10, .inl (q4_traces r6.2))), (a0_targetTraces, .inl (zI Z, 10, .inl (q4_targetTraces r6.2))), (a0_tally, .inl (zI Z, 256, .inl (q4_tally r6.2))), (a1, .inr (2, [.ref a1_sets, .int (q2_points o1), .int (q2_facets o1)])), (a1_sets, .inl (zI Z, 10, .inl (q2_sets o1))), (a2, .inr (2, [.ref a2_sets, .int (q2_points o2), .int (q2_facets o2)])), (a2_sets, .inl (zI Z, 10, .inl (q2_sets o2)))] rfl (by decide) (Nat.le_of_ble_eq_true rfl) (by rw [hR]; exact Nat.le_of_ble_eq_true rfl) (by rw [hR]; exact Nat.le_of_ble_eq_true rfl) ⟨by rw [hR]; exact Nat.le_of_ble_eq_true rfl, by rw [hR]; exact Nat.le_of_ble_eq_true rfl⟩ rfl dX4_find_21 ?_
    refine g_if_eq C 31 dX4_find_24 (by decide) (fun c8 => ?_) (fun c8 => ?_)
    · replace h := it_t c8 h
      refine g_iconst C 0 dX4_find_31 (by decide) ?_
      obtain rfl := Option.some.inj h
      subst hQ
      exact g_zret C rfl (Or.inl rfl) hr hlk dX4_find_32 [0, 1, 2, 3, 4, 5, 6, 7, 8, 9, 10, 11, 12] rfl (by decide)
    · replace h := it_f c8 h
      refine g_iconst C 1 dX4_find_27 (by decide) ?_
      refine g_goto C 32 dX4_find_28 (by decide) ?_
      obtain rfl := Option.some.inj h
      subst hQ
      exact g_zret C rfl (Or.inr rfl) hr hlk dX4_find_32 [0, 1, 2, 3, 4, 5, 6, 7, 8, 9, 10, 11, 12] rfl (by decide)
set_option maxRecDepth 100000 in
set_option maxHeartbeats 4000000 in
theorem kX4_agrees_s21 (l : Launch) (Z : GZ) (a0 a0_image a0_order a0_allowed a0_signatures a0_targetSignatures a0_traces a0_targetTraces a0_tally a1 a1_sets : Nat) (o0 : OX4) (o1 : OX2) (o2 : OX2) (p3 : Int32) (res : Int32 × OX4) (h : fX4_agrees o0 o1 o1 p3 = some res) : MI l Z yX4_agrees cX4_agrees 5 .boolean 1 24 [.ref a0, .ref a1, .ref a1, .int p3] [(a0, .inr (4, [.ref a0_image, .ref a0_order, .ref a0_allowed, .ref a0_signatures, .ref a0_targetSignatures, .ref a0_traces, .ref a0_targetTraces, .ref a0_tally])), (a0_image, .inl (zI Z, 8, .inl (q4_image o0))), (a0_order, .inl (zI Z, 8, .inl (q4_order o0))), (a0_traces, .inl (zI Z, 10, .inl (q4_traces o0))), (a0_targetTraces, .inl (zI Z, 10, .inl (q4_targetTraces o0))), (a0_tally, .inl (zI Z, 256, .inl (q4_tally o0))), (a1, .inr (2, [.ref a1_sets, .int (q2_points o1), .int (q2_facets o1)])), (a1_sets, .inl (zI Z, 10, .inl (q2_sets o1)))] res.1 [(a0, .inr (4, [.ref a0_image, .ref a0_order, .ref a0_allowed, .ref a0_signatures, .ref a0_targetSignatures, .ref a0_traces, .ref a0_targetTraces, .ref a0_tally])), (a0_image, .inl (zI Z, 8, .inl (q4_image o0))), (a0_order, .inl (zI Z, 8, .inl (q4_order o0))), (a0_traces, .inl (zI Z, 10, .inl (q4_traces res.2))), (a0_targetTraces, .inl (zI Z, 10, .inl (q4_targetTraces res.2))), (a0_tally, .inl (zI Z, 256, .inl (q4_tally res.2))), (a1, .inr (2, [.ref a1_sets, .int (q2_points o1), .int (q2_facets o1)])), (a1_sets, .inl (zI Z, 10, .inl (q2_sets o1)))] := by
  refine MI_of (by decide +kernel) (Nat.le_of_ble_eq_true rfl) (fun {p e s m args below meth c} A R hR Q hQ C hr hlk => ?_)
  unfold fX4_agrees at h
  refine g_lv [0, 1, 2, 3] [(0, .ref a0), (1, .ref a1), (2, .ref a1), (3, .int p3)] rfl ?_
  refine g_iconst C 0 dX4_agrees_0 (by decide) ?_
  refine g_istore C dX4_agrees_1 (by decide) [(4, .int 0), (0, .ref a0), (1, .ref a1), (2, .ref a1), (3, .int p3)] rfl ?_
  refine g_lv [1, 2, 3, 4, 0] [(0, .ref a0), (1, .ref a1), (2, .ref a1), (3, .int p3), (4, .int 0)] rfl ?_
  refine g_loop (lvf := fun v1 => [(0, .ref a0), (1, .ref a1), (2, .ref a1), (3, .int p3), (4, .int v1.1)]) (wsf := fun v1 => [(a0, .inr (4, [.ref a0_image, .ref a0_order, .ref a0_allowed, .ref a0_signatures, .ref a0_targetSignatures, .ref a0_traces, .ref a0_targetTraces, .ref a0_tally])), (a0_image, .inl (zI Z, 8, .inl (q4_image o0))), (a0_order, .inl (zI Z, 8, .inl (q4_order o0))), (a0_traces, .inl (zI Z, 10, .inl v1.2.1)), (a0_targetTraces, .inl (zI Z, 10, .inl v1.2.2.1)), (a0_tally, .inl (zI Z, 256, .inl v1.2.2.2)), (a1, .inr (2, [.ref a1_sets, .int (q2_points o1), .int (q2_facets o1)])), (a1_sets, .inl (zI Z, 10, .inl (q2_sets o1)))]) h (fun v1 y1 h hk1 hx1 => ?_)
  refine g_eq (lv1 := [(0, .ref a0), (1, .ref a1), (2, .ref a1), (3, .int p3), (4, .int v1.1)]) (st1 := []) (ws1 := [(a0, .inr (4, [.ref a0_image, .ref a0_order, .ref a0_allowed, .ref a0_signatures, .ref a0_targetSignatures, .ref a0_traces, .ref a0_targetTraces, .ref a0_tally])), (a0_image, .inl (zI Z, 8, .inl (q4_image o0))), (a0_order, .inl (zI Z, 8, .inl (q4_order o0))), (a0_traces, .inl (zI Z, 10, .inl v1.2.1)), (a0_targetTraces, .inl (zI Z, 10, .inl v1.2.2.1)), (a0_tally, .inl (zI Z, 256, .inl v1.2.2.2)), (a1, .inr (2, [.ref a1_sets, .int (q2_points o1), .int (q2_facets o1)])), (a1_sets, .inl (zI Z, 10, .inl (q2_sets o1)))]) rfl rfl rfl rfl ?_
  unfold fX4_agrees_L3 at h
  refine g_iload C dX4_agrees_3 4 rfl ?_
  refine g_aload_n C dX4_agrees_5 rfl 1 rfl ?_
  refine g_get C 2 73 gin2 6 rfl rfl 2 (by decide) mw_1_83 rfl rfl dX4_agrees_6 ?_
  refine g_icmp_ge C 88 dX4_agrees_9 (by decide) (fun c2 => ?_) (fun c2 => ?_)
  · replace h := it_t c2 h
    obtain ⟨r3, h, hy⟩ := ex_of h
    rw [hx1 r3 hy] at h
    refine g_iconst C 0 dX4_agrees_88 (by decide) ?_
    refine g_istore C dX4_agrees_89 (by decide) [(4, .int 0), (0, .ref a0), (1, .ref a1), (2, .ref a1), (3, .int p3)] rfl ?_
    refine g_lv [1, 2, 0] [(0, .ref a0), (1, .ref a1), (4, .int 0)] rfl ?_
    refine g_loop (lvf := fun v4 => [(0, .ref a0), (1, .ref a1), (4, .int v4.1)]) (wsf := fun v4 => [(a0, .inr (4, [.ref a0_image, .ref a0_order, .ref a0_allowed, .ref a0_signatures, .ref a0_targetSignatures, .ref a0_traces, .ref a0_targetTraces, .ref a0_tally])), (a0_image, .inl (zI Z, 8, .inl (q4_image o0))), (a0_order, .inl (zI Z, 8, .inl (q4_order o0))), (a0_traces, .inl (zI Z, 10, .inl v1.2.1)), (a0_targetTraces, .inl (zI Z, 10, .inl v1.2.2.1)), (a0_tally, .inl (zI Z, 256, .inl v4.2)), (a1, .inr (2, [.ref a1_sets, .int (q2_points o1), .int (q2_facets o1)])), (a1_sets, .inl (zI Z, 10, .inl (q2_sets o1)))]) h (fun v4 y1 h hk1 hx1 => ?_)
    refine g_eq (lv1 := [(0, .ref a0), (1, .ref a1), (4, .int v4.1)]) (st1 := []) (ws1 := [(a0, .inr (4, [.ref a0_image, .ref a0_order, .ref a0_allowed, .ref a0_signatures, .ref a0_targetSignatures, .ref a0_traces, .ref a0_targetTraces, .ref a0_tally])), (a0_image, .inl (zI Z, 8, .inl (q4_image o0))), (a0_order, .inl (zI Z, 8, .inl (q4_order o0))), (a0_traces, .inl (zI Z, 10, .inl v1.2.1)), (a0_targetTraces, .inl (zI Z, 10, .inl v1.2.2.1)), (a0_tally, .inl (zI Z, 256, .inl v4.2)), (a1, .inr (2, [.ref a1_sets, .int (q2_points o1), .int (q2_facets o1)])), (a1_sets, .inl (zI Z, 10, .inl (q2_sets o1)))]) rfl rfl rfl rfl ?_
    unfold fX4_agrees_L91 at h
    refine g_iload C dX4_agrees_91 2 rfl ?_
    refine g_aload_n C dX4_agrees_93 rfl 1 rfl ?_
    refine g_get C 2 73 gin2 6 rfl rfl 2 (by decide) mw_1_83 rfl rfl dX4_agrees_94 ?_
    refine g_icmp_ge C 138 dX4_agrees_97 (by decide) (fun c5 => ?_) (fun c5 => ?_)
    · replace h := it_t c5 h
      obtain ⟨r6, h, hy⟩ := ex_of h
      rw [hx1 r6 hy] at h
      refine g_iconst C 0 dX4_agrees_138 (by decide) ?_
      refine g_istore C dX4_agrees_139 (by decide) [(4, .int 0), (0, .ref a0), (1, .ref a1)] rfl ?_
      refine g_lv [1, 2, 0] [(0, .ref a0), (1, .ref a1), (4, .int 0)] rfl ?_
      refine g_loop (lvf := fun v7 => [(0, .ref a0), (1, .ref a1), (4, .int v7)]) (wsf := fun v7 => [(a0, .inr (4, [.ref a0_image, .ref a0_order, .ref a0_allowed, .ref a0_signatures, .ref a0_targetSignatures, .ref a0_traces, .ref a0_targetTraces, .ref a0_tally])), (a0_image, .inl (zI Z, 8, .inl (q4_image o0))), (a0_order, .inl (zI Z, 8, .inl (q4_order o0))), (a0_traces, .inl (zI Z, 10, .inl v1.2.1)), (a0_targetTraces, .inl (zI Z, 10, .inl v1.2.2.1)), (a0_tally, .inl (zI Z, 256, .inl v4.2)), (a1, .inr (2, [.ref a1_sets, .int (q2_points o1), .int (q2_facets o1)])), (a1_sets, .inl (zI Z, 10, .inl (q2_sets o1)))]) h (fun v7 y1 h hk1 hx1 => ?_)
      refine g_eq (lv1 := [(0, .ref a0), (1, .ref a1), (4, .int v7)]) (st1 := []) (ws1 := [(a0, .inr (4, [.ref a0_image, .ref a0_order, .ref a0_allowed, .ref a0_signatures, .ref a0_targetSignatures, .ref a0_traces, .ref a0_targetTraces, .ref a0_tally])), (a0_image, .inl (zI Z, 8, .inl (q4_image o0))), (a0_order, .inl (zI Z, 8, .inl (q4_order o0))), (a0_traces, .inl (zI Z, 10, .inl v1.2.1)), (a0_targetTraces, .inl (zI Z, 10, .inl v1.2.2.1)), (a0_tally, .inl (zI Z, 256, .inl v4.2)), (a1, .inr (2, [.ref a1_sets, .int (q2_points o1), .int (q2_facets o1)])), (a1_sets, .inl (zI Z, 10, .inl (q2_sets o1)))]) rfl rfl rfl rfl ?_
      unfold fX4_agrees_L141 at h
      refine g_iload C dX4_agrees_141 2 rfl ?_
      refine g_aload_n C dX4_agrees_143 rfl 1 rfl ?_
      refine g_get C 2 73 gin2 6 rfl rfl 2 (by decide) mw_1_83 rfl rfl dX4_agrees_144 ?_
      refine g_icmp_ge C 173 dX4_agrees_147 (by decide) (fun c8 => ?_) (fun c8 => ?_)
      · replace h := it_t c8 h
        obtain ⟨r9, h, hy⟩ := ex_of h
        rw [hx1 r9 hy] at h
        refine g_iconst C 1 dX4_agrees_173 (by decide) ?_
        obtain rfl := Option.some.inj h
        subst hQ
        exact g_zret C rfl (Or.inr rfl) hr hlk dX4_agrees_174 [0, 1, 2, 3, 4, 5, 6, 7] rfl (by decide)
      · replace h := it_f c8 h
        refine g_aload_n C dX4_agrees_150 rfl 0 rfl ?_
        refine g_get C 4 34 gin4 0 rfl rfl 7 (by decide) mw_1_170 rfl rfl dX4_agrees_151 ?_
        refine g_aload_n C dX4_agrees_154 rfl 0 rfl ?_
        refine g_get C 4 28 gin4 0 rfl rfl 5 (by decide) mw_1_168 rfl rfl dX4_agrees_155 ?_
        refine g_iload C dX4_agrees_158 2 rfl ?_
        obtain ⟨hi10, h⟩ := ck_of h
        refine g_iald C 3 rfl hi10 dX4_agrees_160 ?_
        obtain ⟨hi11, h⟩ := ck_of h
        refine g_iald C 5 rfl hi11 dX4_agrees_161 ?_
        refine g_if_eq C 167 dX4_agrees_162 (by decide) (fun c12 => ?_) (fun c12 => ?_)
        · replace h := it_t c12 h
          refine g_iinc C (v7 + 1) dX4_agrees_167 2 rfl rfl (by decide) [(4, .int (v7 + 1)), (0, .ref a0), (1, .ref a1)] rfl ?_
          refine g_goto C 141 dX4_agrees_170 (by decide) ?_
          refine g_lv [1, 2, 0] [(0, .ref a0), (1, .ref a1), (4, .int (v7 + 1))] rfl ?_
          exact hk1 (v7 + 1) (Option.some.inj h).symm
        · replace h := it_f c12 h
          obtain ⟨r13, h, hy⟩ := ex_of h
          rw [hx1 r13 hy] at h
          refine g_iconst C 0 dX4_agrees_165 (by decide) ?_
          obtain rfl := Option.some.inj h
          subst hQ
          exact g_zret C rfl (Or.inl rfl) hr hlk dX4_agrees_166 [0, 1, 2, 3, 4, 5, 6, 7] rfl (by decide)
    · replace h := it_f c5 h
      refine g_aload_n C dX4_agrees_100 rfl 0 rfl ?_
      refine g_get C 4 34 gin4 0 rfl rfl 7 (by decide) mw_1_170 rfl rfl dX4_agrees_101 ?_
      refine g_aload_n C dX4_agrees_104 rfl 0 rfl ?_
      refine g_get C 4 28 gin4 0 rfl rfl 5 (by decide) mw_1_168 rfl rfl dX4_agrees_105 ?_
      refine g_iload C dX4_agrees_108 2 rfl ?_
      obtain ⟨hi14, h⟩ := ck_of h
      refine g_iald C 3 rfl hi14 dX4_agrees_110 ?_
      refine g_dup2 C dX4_agrees_111 rfl rfl ?_
      obtain ⟨hi15, h⟩ := ck_of h
      refine g_iald C 5 rfl hi15 dX4_agrees_112 ?_
      refine g_iconst C 1 dX4_agrees_113 (by decide) ?_
      refine g_iadd C dX4_agrees_114 ?_
      obtain ⟨hi16, h⟩ := ck_of h
      refine g_iast C 5 rfl hi16 [(a0, .inr (4, [.ref a0_image, .ref a0_order, .ref a0_allowed, .ref a0_signatures, .ref a0_targetSignatures, .ref a0_traces, .ref a0_targetTraces, .ref a0_tally])), (a0_image, .inl (zI Z, 8, .inl (q4_image o0))), (a0_order, .inl (zI Z, 8, .inl (q4_order o0))), (a0_traces, .inl (zI Z, 10, .inl v1.2.1)), (a0_targetTraces, .inl (zI Z, 10, .inl v1.2.2.1)), (a0_tally, .inl (zI Z, 256, .inl (upd v4.2 (ix (v1.2.1 (ix v4.1))) ((v4.2 (ix (v1.2.1 (ix v4.1)))) + 1)))), (a1, .inr (2, [.ref a1_sets, .int (q2_points o1), .int (q2_facets o1)])), (a1_sets, .inl (zI Z, 10, .inl (q2_sets o1)))] rfl dX4_agrees_115 ?_
      refine g_aload_n C dX4_agrees_116 rfl 0 rfl ?_
      refine g_get C 4 34 gin4 0 rfl rfl 7 (by decide) mw_1_170 rfl rfl dX4_agrees_117 ?_
      refine g_aload_n C dX4_agrees_120 rfl 0 rfl ?_
      refine g_get C 4 31 gin4 0 rfl rfl 6 (by decide) mw_1_169 rfl rfl dX4_agrees_121 ?_
      refine g_iload C dX4_agrees_124 2 rfl ?_
      obtain ⟨hi17, h⟩ := ck_of h
      refine g_iald C 4 rfl hi17 dX4_agrees_126 ?_
      refine g_dup2 C dX4_agrees_127 rfl rfl ?_
      obtain ⟨hi18, h⟩ := ck_of h
      refine g_iald C 5 rfl hi18 dX4_agrees_128 ?_
      refine g_iconst C 1 dX4_agrees_129 (by decide) ?_
      refine g_isub C dX4_agrees_130 ?_
      obtain ⟨hi19, h⟩ := ck_of h
      refine g_iast C 5 rfl hi19 [(a0, .inr (4, [.ref a0_image, .ref a0_order, .ref a0_allowed, .ref a0_signatures, .ref a0_targetSignatures, .ref a0_traces, .ref a0_targetTraces, .ref a0_tally])), (a0_image, .inl (zI Z, 8, .inl (q4_image o0))), (a0_order, .inl (zI Z, 8, .inl (q4_order o0))), (a0_traces, .inl (zI Z, 10, .inl v1.2.1)), (a0_targetTraces, .inl (zI Z, 10, .inl v1.2.2.1)), (a0_tally, .inl (zI Z, 256, .inl (upd (upd v4.2 (ix (v1.2.1 (ix v4.1))) ((v4.2 (ix (v1.2.1 (ix v4.1)))) + 1)) (ix (v1.2.2.1 (ix v4.1))) (((upd v4.2 (ix (v1.2.1 (ix v4.1))) ((v4.2 (ix (v1.2.1 (ix v4.1)))) + 1)) (ix (v1.2.2.1 (ix v4.1)))) - 1)))), (a1, .inr (2, [.ref a1_sets, .int (q2_points o1), .int (q2_facets o1)])), (a1_sets, .inl (zI Z, 10, .inl (q2_sets o1)))] rfl dX4_agrees_131 ?_
      refine g_iinc C (v4.1 + 1) dX4_agrees_132 2 rfl rfl (by decide) [(4, .int (v4.1 + 1)), (0, .ref a0), (1, .ref a1)] rfl ?_
      refine g_goto C 91 dX4_agrees_135 (by decide) ?_
      refine g_lv [1, 2, 0] [(0, .ref a0), (1, .ref a1), (4, .int (v4.1 + 1))] rfl ?_
      exact hk1 ((v4.1 + 1), (upd (upd v4.2 (ix (v1.2.1 (ix v4.1))) ((v4.2 (ix (v1.2.1 (ix v4.1)))) + 1)) (ix (v1.2.2.1 (ix v4.1))) (((upd v4.2 (ix (v1.2.1 (ix v4.1))) ((v4.2 (ix (v1.2.1 (ix v4.1)))) + 1)) (ix (v1.2.2.1 (ix v4.1)))) - 1))) (Option.some.inj h).symm
  · replace h := it_f c2 h
    refine g_aload_n C dX4_agrees_12 rfl 0 rfl ?_
    refine g_get C 4 28 gin4 0 rfl rfl 5 (by decide) mw_1_168 rfl rfl dX4_agrees_13 ?_
    refine g_iload C dX4_agrees_16 4 rfl ?_
    refine g_aload_n C dX4_agrees_18 rfl 1 rfl ?_
    refine g_get C 2 80 gin2 6 rfl rfl 0 (by decide) mw_1_71 rfl rfl dX4_agrees_19 ?_
    refine g_iload C dX4_agrees_22 4 rfl ?_
    obtain ⟨hi20, h⟩ := ck_of h
    refine g_iald C 7 rfl hi20 dX4_agrees_24 ?_
    refine g_aload_n C dX4_agrees_25 rfl 0 rfl ?_
    refine g_get C 4 15 gin4 0 rfl rfl 1 (by decide) mw_1_164 rfl rfl dX4_agrees_26 ?_
    refine g_iload_n C dX4_agrees_29 rfl 3 rfl ?_
    obtain ⟨r21, hr22, h⟩ := bd_of h
    refine g_callSi C (kX4_trace l Z a0_order ((q2_sets o1) (ix v1.1)) (q4_order o0) p3 r21 hr22) myX4_trace 95 mw_3_64 rfl [2] [0, 1, 3, 4, 5, 6, 7] [0, 1, 7, 2, 3, 4, 5, 6] (wr := [(a0, .inr (4, [.ref a0_image, .ref a0_order, .ref a0_allowed, .ref a0_signatures, .ref a0_targetSignatures, .ref a0_traces, .ref a0_targetTraces, .ref a0_tally])), (a0_image, .inl (zI Z, 8, .inl (q4_image o0))), (a0_traces, .inl (zI Z, 10, .inl v1.2.1)), (a0_targetTraces, .inl (zI Z, 10, .inl v1.2.2.1)), (a0_tally, .inl (zI Z, 256, .inl v1.2.2.2)), (a1, .inr (2, [.ref a1_sets, .int (q2_points o1), .int (q2_facets o1)])), (a1_sets, .inl (zI Z, 10, .inl (q2_sets o1)))]) rfl rfl (by decide) (by decide) (by decide) [(a0, .inr (4, [.ref a0_image, .ref a0_order, .ref a0_allowed, .ref a0_signatures, .ref a0_targetSignatures, .ref a0_traces, .ref a0_targetTraces, .ref a0_tally])), (a0_image, .inl (zI Z, 8, .inl (q4_image o0))), (a0_order, .inl (zI Z, 8, .inl (q4_order o0))), (a0_traces, .inl (zI Z, 10, .inl v1.2.1)), (a0_targetTraces, .inl (zI Z, 10, .inl v1.2.2.1)), (a0_tally, .inl (zI Z, 256, .inl v1.2.2.2)), (a1, .inr (2, [.ref a1_sets, .int (q2_points o1), .int (q2_facets o1)])), (a1_sets, .inl (zI Z, 10, .inl (q2_sets o1)))] rfl (by decide) (Nat.le_of_ble_eq_true rfl) (by rw [hR]; exact Nat.le_of_ble_eq_true rfl) (by rw [hR]; exact Nat.le_of_ble_eq_true rfl) ⟨by rw [hR]; exact Nat.le_of_ble_eq_true rfl, by rw [hR]; exact Nat.le_of_ble_eq_true rfl⟩ rfl dX4_agrees_30 ?_
    obtain ⟨hi23, h⟩ := ck_of h
    refine g_iast C 3 rfl hi23 [(a0, .inr (4, [.ref a0_image, .ref a0_order, .ref a0_allowed, .ref a0_signatures, .ref a0_targetSignatures, .ref a0_traces, .ref a0_targetTraces, .ref a0_tally])), (a0_image, .inl (zI Z, 8, .inl (q4_image o0))), (a0_order, .inl (zI Z, 8, .inl (q4_order o0))), (a0_traces, .inl (zI Z, 10, .inl (upd v1.2.1 (ix v1.1) r21))), (a0_targetTraces, .inl (zI Z, 10, .inl v1.2.2.1)), (a0_tally, .inl (zI Z, 256, .inl v1.2.2.2)), (a1, .inr (2, [.ref a1_sets, .int (q2_points o1), .int (q2_facets o1)])), (a1_sets, .inl (zI Z, 10, .inl (q2_sets o1)))] rfl dX4_agrees_33 ?_
    refine g_aload_n C dX4_agrees_34 rfl 0 rfl ?_
    refine g_get C 4 31 gin4 0 rfl rfl 6 (by decide) mw_1_169 rfl rfl dX4_agrees_35 ?_
    refine g_iload C dX4_agrees_38 4 rfl ?_
    refine g_aload_n C dX4_agrees_40 rfl 2 rfl ?_
    refine g_get C 2 80 gin2 6 rfl rfl 0 (by decide) mw_1_71 rfl rfl dX4_agrees_41 ?_
    refine g_iload C dX4_agrees_44 4 rfl ?_
    obtain ⟨hi24, h⟩ := ck_of h
    refine g_iald C 7 rfl hi24 dX4_agrees_46 ?_
    refine g_aload_n C dX4_agrees_47 rfl 0 rfl ?_
    refine g_get C 4 9 gin4 0 rfl rfl 0 (by decide) mw_1_162 rfl rfl dX4_agrees_48 ?_
    refine g_iload_n C dX4_agrees_51 rfl 3 rfl ?_
    obtain ⟨r25, hr26, h⟩ := bd_of h
    refine g_callSi C (kX4_trace l Z a0_image ((q2_sets o1) (ix v1.1)) (q4_image o0) p3 r25 hr26) myX4_trace 95 mw_3_64 rfl [1] [0, 2, 3, 4, 5, 6, 7] [0, 7, 1, 2, 3, 4, 5, 6] (wr := [(a0, .inr (4, [.ref a0_image, .ref a0_order, .ref a0_allowed, .ref a0_signatures, .ref a0_targetSignatures, .ref a0_traces, .ref a0_targetTraces, .ref a0_tally])), (a0_order, .inl (zI Z, 8, .inl (q4_order o0))), (a0_traces, .inl (zI Z, 10, .inl (upd v1.2.1 (ix v1.1) r21))), (a0_targetTraces, .inl (zI Z, 10, .inl v1.2.2.1)), (a0_tally, .inl (zI Z, 256, .inl v1.2.2.2)), (a1, .inr (2, [.ref a1_sets, .int (q2_points o1), .int (q2_facets o1)])), (a1_sets, .inl (zI Z, 10, .inl (q2_sets o1)))]) rfl rfl (by decide) (by decide) (by decide) [(a0, .inr (4, [.ref a0_image, .ref a0_order, .ref a0_allowed, .ref a0_signatures, .ref a0_targetSignatures, .ref a0_traces, .ref a0_targetTraces, .ref a0_tally])), (a0_image, .inl (zI Z, 8, .inl (q4_image o0))), (a0_order, .inl (zI Z, 8, .inl (q4_order o0))), (a0_traces, .inl (zI Z, 10, .inl (upd v1.2.1 (ix v1.1) r21))), (a0_targetTraces, .inl (zI Z, 10, .inl v1.2.2.1)), (a0_tally, .inl (zI Z, 256, .inl v1.2.2.2)), (a1, .inr (2, [.ref a1_sets, .int (q2_points o1), .int (q2_facets o1)])), (a1_sets, .inl (zI Z, 10, .inl (q2_sets o1)))] rfl (by decide) (Nat.le_of_ble_eq_true rfl) (by rw [hR]; exact Nat.le_of_ble_eq_true rfl) (by rw [hR]; exact Nat.le_of_ble_eq_true rfl) ⟨by rw [hR]; exact Nat.le_of_ble_eq_true rfl, by rw [hR]; exact Nat.le_of_ble_eq_true rfl⟩ rfl dX4_agrees_52 ?_
    obtain ⟨hi27, h⟩ := ck_of h
    refine g_iast C 4 rfl hi27 [(a0, .inr (4, [.ref a0_image, .ref a0_order, .ref a0_allowed, .ref a0_signatures, .ref a0_targetSignatures, .ref a0_traces, .ref a0_targetTraces, .ref a0_tally])), (a0_image, .inl (zI Z, 8, .inl (q4_image o0))), (a0_order, .inl (zI Z, 8, .inl (q4_order o0))), (a0_traces, .inl (zI Z, 10, .inl (upd v1.2.1 (ix v1.1) r21))), (a0_targetTraces, .inl (zI Z, 10, .inl (upd v1.2.2.1 (ix v1.1) r25))), (a0_tally, .inl (zI Z, 256, .inl v1.2.2.2)), (a1, .inr (2, [.ref a1_sets, .int (q2_points o1), .int (q2_facets o1)])), (a1_sets, .inl (zI Z, 10, .inl (q2_sets o1)))] rfl dX4_agrees_55 ?_
    refine g_aload_n C dX4_agrees_56 rfl 0 rfl ?_
    refine g_get C 4 34 gin4 0 rfl rfl 7 (by decide) mw_1_170 rfl rfl dX4_agrees_57 ?_
    refine g_aload_n C dX4_agrees_60 rfl 0 rfl ?_
    refine g_get C 4 28 gin4 0 rfl rfl 5 (by decide) mw_1_168 rfl rfl dX4_agrees_61 ?_
    refine g_iload C dX4_agrees_64 4 rfl ?_
    obtain ⟨hi28, h⟩ := ck_of h
    refine g_iald C 3 rfl hi28 dX4_agrees_66 ?_
    refine g_iconst C 0 dX4_agrees_67 (by decide) ?_
    obtain ⟨hi29, h⟩ := ck_of h
    refine g_iast C 5 rfl hi29 [(a0, .inr (4, [.ref a0_image, .ref a0_order, .ref a0_allowed, .ref a0_signatures, .ref a0_targetSignatures, .ref a0_traces, .ref a0_targetTraces, .ref a0_tally])), (a0_image, .inl (zI Z, 8, .inl (q4_image o0))), (a0_order, .inl (zI Z, 8, .inl (q4_order o0))), (a0_traces, .inl (zI Z, 10, .inl (upd v1.2.1 (ix v1.1) r21))), (a0_targetTraces, .inl (zI Z, 10, .inl (upd v1.2.2.1 (ix v1.1) r25))), (a0_tally, .inl (zI Z, 256, .inl (upd v1.2.2.2 (ix ((upd v1.2.1 (ix v1.1) r21) (ix v1.1))) 0))), (a1, .inr (2, [.ref a1_sets, .int (q2_points o1), .int (q2_facets o1)])), (a1_sets, .inl (zI Z, 10, .inl (q2_sets o1)))] rfl dX4_agrees_68 ?_
    refine g_aload_n C dX4_agrees_69 rfl 0 rfl ?_
    refine g_get C 4 34 gin4 0 rfl rfl 7 (by decide) mw_1_170 rfl rfl dX4_agrees_70 ?_
    refine g_aload_n C dX4_agrees_73 rfl 0 rfl ?_
    refine g_get C 4 31 gin4 0 rfl rfl 6 (by decide) mw_1_169 rfl rfl dX4_agrees_74 ?_
    refine g_iload C dX4_agrees_77 4 rfl ?_
    obtain ⟨hi30, h⟩ := ck_of h
    refine g_iald C 4 rfl hi30 dX4_agrees_79 ?_
    refine g_iconst C 0 dX4_agrees_80 (by decide) ?_
    obtain ⟨hi31, h⟩ := ck_of h
    refine g_iast C 5 rfl hi31 [(a0, .inr (4, [.ref a0_image, .ref a0_order, .ref a0_allowed, .ref a0_signatures, .ref a0_targetSignatures, .ref a0_traces, .ref a0_targetTraces, .ref a0_tally])), (a0_image, .inl (zI Z, 8, .inl (q4_image o0))), (a0_order, .inl (zI Z, 8, .inl (q4_order o0))), (a0_traces, .inl (zI Z, 10, .inl (upd v1.2.1 (ix v1.1) r21))), (a0_targetTraces, .inl (zI Z, 10, .inl (upd v1.2.2.1 (ix v1.1) r25))), (a0_tally, .inl (zI Z, 256, .inl (upd (upd v1.2.2.2 (ix ((upd v1.2.1 (ix v1.1) r21) (ix v1.1))) 0) (ix ((upd v1.2.2.1 (ix v1.1) r25) (ix v1.1))) 0))), (a1, .inr (2, [.ref a1_sets, .int (q2_points o1), .int (q2_facets o1)])), (a1_sets, .inl (zI Z, 10, .inl (q2_sets o1)))] rfl dX4_agrees_81 ?_
    refine g_iinc C (v1.1 + 1) dX4_agrees_82 4 rfl rfl (by decide) [(4, .int (v1.1 + 1)), (0, .ref a0), (1, .ref a1), (2, .ref a1), (3, .int p3)] rfl ?_
    refine g_goto C 3 dX4_agrees_85 (by decide) ?_
    refine g_lv [1, 2, 3, 4, 0] [(0, .ref a0), (1, .ref a1), (2, .ref a1), (3, .int p3), (4, .int (v1.1 + 1))] rfl ?_
    exact hk1 ((v1.1 + 1), (upd v1.2.1 (ix v1.1) r21), (upd v1.2.2.1 (ix v1.1) r25), (upd (upd v1.2.2.2 (ix ((upd v1.2.1 (ix v1.1) r21) (ix v1.1))) 0) (ix ((upd v1.2.2.1 (ix v1.1) r25) (ix v1.1))) 0)) (Option.some.inj h).symm
set_option maxRecDepth 100000 in
set_option maxHeartbeats 4000000 in
theorem kX4_goesTo_s32 (l : Launch) (Z : GZ) (n : Nat) (ih : ∀ (a0 a0_image a0_order a0_allowed a0_signatures a0_targetSignatures a0_traces a0_targetTraces a0_tally a1 a1_sets : Nat) (o0 : OX4) (o1 : OX2) (o2 : OX2) (p3 : Int32) (p4 : Int32) (res : Int32 × OX4) (h : fX4_extend n o0 o1 o1 p3 p4 = some res), MI l Z yX4_extend cX4_extend 6 .boolean (2 * n + 2) (n * 51 + 48) [.ref a0, .ref a1, .ref a1, .int p3, .int p4] [(a0, .inr (4, [.ref a0_image, .ref a0_order, .ref a0_allowed, .ref a0_signatures, .ref a0_targetSignatures, .ref a0_traces, .ref a0_targetTraces, .ref a0_tally])), (a0_image, .inl (zI Z, 8, .inl (q4_image o0))), (a0_order, .inl (zI Z, 8, .inl (q4_order o0))), (a0_allowed, .inl (zI Z, 8, .inl (q4_allowed o0))), (a0_traces, .inl (zI Z, 10, .inl (q4_traces o0))), (a0_targetTraces, .inl (zI Z, 10, .inl (q4_targetTraces o0))), (a0_tally, .inl (zI Z, 256, .inl (q4_tally o0))), (a1, .inr (2, [.ref a1_sets, .int (q2_points o1), .int (q2_facets o1)])), (a1_sets, .inl (zI Z, 10, .inl (q2_sets o1)))] res.1 [(a0, .inr (4, [.ref a0_image, .ref a0_order, .ref a0_allowed, .ref a0_signatures, .ref a0_targetSignatures, .ref a0_traces, .ref a0_targetTraces, .ref a0_tally])), (a0_image, .inl (zI Z, 8, .inl (q4_image res.2))), (a0_order, .inl (zI Z, 8, .inl (q4_order o0))), (a0_allowed, .inl (zI Z, 8, .inl (q4_allowed o0))), (a0_traces, .inl (zI Z, 10, .inl (q4_traces res.2))), (a0_targetTraces, .inl (zI Z, 10, .inl (q4_targetTraces res.2))), (a0_tally, .inl (zI Z, 256, .inl (q4_tally res.2))), (a1, .inr (2, [.ref a1_sets, .int (q2_points o1), .int (q2_facets o1)])), (a1_sets, .inl (zI Z, 10, .inl (q2_sets o1)))]) (a0 a0_image a0_order a0_allowed a0_signatures a0_targetSignatures a0_traces a0_targetTraces a0_tally a2 a2_sets : Nat) (o0 : OX4) (p1 : Int32) (o2 : OX2) (o3 : OX2) (p4 : Int32) (p5 : Int32) (res : Int32 × OX4) (h : fX4_goesTo_B (fX4_extend n) o0 p1 o2 o2 p4 p5 = some res) : MI l Z yX4_goesTo cX4_goesTo 7 .boolean (2 * n + 3) (n * 51 + 73) [.ref a0, .int p1, .ref a2, .ref a2, .int p4, .int p5] [(a0, .inr (4, [.ref a0_image, .ref a0_order, .ref a0_allowed, .ref a0_signatures, .ref a0_targetSignatures, .ref a0_traces, .ref a0_targetTraces, .ref a0_tally])), (a0_image, .inl (zI Z, 8, .inl (q4_image o0))), (a0_order, .inl (zI Z, 8, .inl (q4_order o0))), (a0_allowed, .inl (zI Z, 8, .inl (q4_allowed o0))), (a0_traces, .inl (zI Z, 10, .inl (q4_traces o0))), (a0_targetTraces, .inl (zI Z, 10, .inl (q4_targetTraces o0))), (a0_tally, .inl (zI Z, 256, .inl (q4_tally o0))), (a2, .inr (2, [.ref a2_sets, .int (q2_points o2), .int (q2_facets o2)])), (a2_sets, .inl (zI Z, 10, .inl (q2_sets o2)))] res.1 [(a0, .inr (4, [.ref a0_image, .ref a0_order, .ref a0_allowed, .ref a0_signatures, .ref a0_targetSignatures, .ref a0_traces, .ref a0_targetTraces, .ref a0_tally])), (a0_image, .inl (zI Z, 8, .inl (q4_image res.2))), (a0_order, .inl (zI Z, 8, .inl (q4_order o0))), (a0_allowed, .inl (zI Z, 8, .inl (q4_allowed o0))), (a0_traces, .inl (zI Z, 10, .inl (q4_traces res.2))), (a0_targetTraces, .inl (zI Z, 10, .inl (q4_targetTraces res.2))), (a0_tally, .inl (zI Z, 256, .inl (q4_tally res.2))), (a2, .inr (2, [.ref a2_sets, .int (q2_points o2), .int (q2_facets o2)])), (a2_sets, .inl (zI Z, 10, .inl (q2_sets o2)))] := by
  refine MI_of (by decide +kernel) (Nat.le_of_ble_eq_true rfl) (fun {p e s m args below meth c} A R hR Q hQ C hr hlk => ?_)
  unfold fX4_goesTo_B at h
  refine g_lv [0, 1, 2, 3, 4, 5] [(0, .ref a0), (1, .int p1), (2, .ref a2), (3, .ref a2), (4, .int p4), (5, .int p5)] rfl ?_
  refine g_iconst C 1 dX4_goesTo_0 (by decide) ?_
  refine g_iload_n C dX4_goesTo_1 rfl 1 rfl ?_
  refine g_ishl C dX4_goesTo_2 ?_
  refine g_istore C dX4_goesTo_3 (by decide) [(6, .int (jshl 1 p1)), (0, .ref a0), (1, .int p1), (2, .ref a2), (3, .ref a2), (4, .int p4), (5, .int p5)] rfl ?_
  refine g_aload_n C dX4_goesTo_5 rfl 1 rfl ?_
  refine g_get C 4 18 gin4 0 rfl rfl 2 (by decide) mw_1_165 rfl rfl dX4_goesTo_6 ?_
  refine g_aload_n C dX4_goesTo_9 rfl 1 rfl ?_
  refine g_get C 4 15 gin4 0 rfl rfl 1 (by decide) mw_1_164 rfl rfl dX4_goesTo_10 ?_
  refine g_iload C dX4_goesTo_13 5 rfl ?_
  obtain ⟨hi1, h⟩ := ck_of h
  refine g_iald C 2 rfl hi1 dX4_goesTo_15 ?_
  obtain ⟨hi2, h⟩ := ck_of h
  refine g_iald C 3 rfl hi2 dX4_goesTo_16 ?_
  refine g_iload C dX4_goesTo_17 6 rfl ?_
  refine g_iconst C (-1) dX4_goesTo_19 (by decide) ?_
  refine g_ixor C dX4_goesTo_20 ?_
  refine g_iand C dX4_goesTo_21 ?_
  refine g_iload C dX4_goesTo_22 0 rfl ?_
  refine g_iand C dX4_goesTo_24 ?_
  refine g_if_ne C 30 dX4_goesTo_25 (by decide) (fun c3 => ?_) (fun c3 => ?_)
  · replace h := it_f c3 h
    refine g_aload_n C dX4_goesTo_30 rfl 1 rfl ?_
    refine g_get C 4 9 gin4 0 rfl rfl 0 (by decide) mw_1_162 rfl rfl dX4_goesTo_31 ?_
    refine g_iload C dX4_goesTo_34 5 rfl ?_
    refine g_iload_n C dX4_goesTo_36 rfl 2 rfl ?_
    obtain ⟨hi4, h⟩ := ck_of h
    refine g_iast C 1 rfl hi4 [(a0, .inr (4, [.ref a0_image, .ref a0_order, .ref a0_allowed, .ref a0_signatures, .ref a0_targetSignatures, .ref a0_traces, .ref a0_targetTraces, .ref a0_tally])), (a0_image, .inl (zI Z, 8, .inl (upd (q4_image o0) (ix p4) p1))), (a0_order, .inl (zI Z, 8, .inl (q4_order o0))), (a0_allowed, .inl (zI Z, 8, .inl (q4_allowed o0))), (a0_traces, .inl (zI Z, 10, .inl (q4_traces o0))), (a0_targetTraces, .inl (zI Z, 10, .inl (q4_targetTraces o0))), (a0_tally, .inl (zI Z, 256, .inl (q4_tally o0))), (a2, .inr (2, [.ref a2_sets, .int (q2_points o2), .int (q2_facets o2)])), (a2_sets, .inl (zI Z, 10, .inl (q2_sets o2)))] rfl dX4_goesTo_37 ?_
    refine g_aload_n C dX4_goesTo_38 rfl 1 rfl ?_
    refine g_aload_n C dX4_goesTo_39 rfl 3 rfl ?_
    refine g_aload_n C dX4_goesTo_40 rfl 4 rfl ?_
    refine g_iload C dX4_goesTo_41 5 rfl ?_
    refine g_iconst C 1 dX4_goesTo_43 (by decide) ?_
    refine g_iadd C dX4_goesTo_44 ?_
    obtain ⟨r5, hr6, h⟩ := bd_of h
    refine g_callVi C (kX4_agrees_s21 l Z a0 a0_image a0_order a0_allowed a0_signatures a0_targetSignatures a0_traces a0_targetTraces a0_tally a2 a2_sets (s4_image o0 (upd (q4_image o0) (ix p4) p1)) o2 o2 (p4 + 1) r5 hr6) 0 rfl (ci := 4) rfl rfl myX4_agrees 91 mw_3_60 rfl [0, 1, 2, 4, 5, 6, 7, 8] [3] [1, 2, 3, 0, 4, 5, 6, 7, 8] (wr := [(a0_allowed, .inl (zI Z, 8, .inl (q4_allowed o0)))]) rfl rfl (by decide) (by decide) (by decide) [(a0, .inr (4, [.ref a0_image, .ref a0_order, .ref a0_allowed, .ref a0_signatures, .ref a0_targetSignatures, .ref a0_traces, .ref a0_targetTraces, .ref a0_tally])), (a0_image, .inl (zI Z, 8, .inl (upd (q4_image o0) (ix p4) p1))), (a0_order, .inl (zI Z, 8, .inl (q4_order o0))), (a0_allowed, .inl (zI Z, 8, .inl (q4_allowed o0))), (a0_traces, .inl (zI Z, 10, .inl (q4_traces r5.2))), (a0_targetTraces, .inl (zI Z, 10, .inl (q4_targetTraces r5.2))), (a0_tally, .inl (zI Z, 256, .inl (q4_tally r5.2))), (a2, .inr (2, [.ref a2_sets, .int (q2_points o2), .int (q2_facets o2)])), (a2_sets, .inl (zI Z, 10, .inl (q2_sets o2)))] rfl (by decide) (Nat.le_of_ble_eq_true rfl) (by rw [hR]; exact (by omega : 1 + 1 ≤ 2 * n + 3)) (by rw [hR]; exact (by omega : 8 + (5 + 11) + 24 ≤ n * 51 + 73)) ⟨by rw [hR]; exact Nat.le_of_ble_eq_true rfl, by rw [hR]; exact Nat.le_of_ble_eq_true rfl⟩ rfl dX4_goesTo_45 ?_
    refine g_if_eq C 73 dX4_goesTo_48 (by decide) (fun c7 => ?_) (fun c7 => ?_)
    · replace h := it_t c7 h
      refine g_iconst C 0 dX4_goesTo_73 (by decide) ?_
      obtain rfl := Option.some.inj h
      subst hQ
      exact g_zret C rfl (Or.inl rfl) hr hlk dX4_goesTo_74 [0, 1, 2, 3, 4, 5, 6, 7, 8] rfl (by decide)
    · replace h := it_f c7 h
      refine g_aload_n C dX4_goesTo_51 rfl 1 rfl ?_
      refine g_aload_n C dX4_goesTo_52 rfl 3 rfl ?_
      refine g_aload_n C dX4_goesTo_53 rfl 4 rfl ?_
      refine g_iload C dX4_goesTo_54 5 rfl ?_
      refine g_iconst C 1 dX4_goesTo_56 (by decide) ?_
      refine g_iadd C dX4_goesTo_57 ?_
      refine g_iload C dX4_goesTo_58 6 rfl ?_
      refine g_iload C dX4_goesTo_60 0 rfl ?_
      refine g_ior C dX4_goesTo_62 ?_
      obtain ⟨r8, hr9, h⟩ := bd_of h
      refine g_callVi C (ih a0 a0_image a0_order a0_allowed a0_signatures a0_targetSignatures a0_traces a0_targetTraces a0_tally a2 a2_sets (s4_tally (s4_targetTraces (s4_traces (s4_image o0 (upd (q4_image o0) (ix p4) p1)) (q4_traces r5.2)) (q4_targetTraces r5.2)) (q4_tally r5.2)) o2 o2 (p4 + 1) (p5 ||| (jshl 1 p1)) r8 hr9) 0 rfl (ci := 4) rfl rfl myX4_extend 83 mw_3_52 rfl [0, 1, 2, 3, 4, 5, 6, 7, 8] [] [0, 1, 2, 3, 4, 5, 6, 7, 8] (wr := []) rfl rfl (by decide) (by decide) (by decide) [(a0, .inr (4, [.ref a0_image, .ref a0_order, .ref a0_allowed, .ref a0_signatures, .ref a0_targetSignatures, .ref a0_traces, .ref a0_targetTraces, .ref a0_tally])), (a0_image, .inl (zI Z, 8, .inl (q4_image r8.2))), (a0_order, .inl (zI Z, 8, .inl (q4_order o0))), (a0_allowed, .inl (zI Z, 8, .inl (q4_allowed o0))), (a0_traces, .inl (zI Z, 10, .inl (q4_traces r8.2))), (a0_targetTraces, .inl (zI Z, 10, .inl (q4_targetTraces r8.2))), (a0_tally, .inl (zI Z, 256, .inl (q4_tally r8.2))), (a2, .inr (2, [.ref a2_sets, .int (q2_points o2), .int (q2_facets o2)])), (a2_sets, .inl (zI Z, 10, .inl (q2_sets o2)))] rfl (by decide) (Nat.le_of_ble_eq_true rfl) (by rw [hR]; exact (by omega : (2 * n + 2) + 1 ≤ 2 * n + 3)) (by rw [hR]; exact (by omega : 8 + (6 + 11) + (n * 51 + 48) ≤ n * 51 + 73)) ⟨by rw [hR]; exact Nat.le_of_ble_eq_true rfl, by rw [hR]; exact Nat.le_of_ble_eq_true rfl⟩ rfl dX4_goesTo_63 ?_
      refine g_if_eq C 73 dX4_goesTo_66 (by decide) (fun c10 => ?_) (fun c10 => ?_)
      · replace h := it_t c10 h
        refine g_iconst C 0 dX4_goesTo_73 (by decide) ?_
        obtain rfl := Option.some.inj h
        subst hQ
        exact g_zret C rfl (Or.inl rfl) hr hlk dX4_goesTo_74 [0, 1, 2, 3, 4, 5, 6, 7, 8] rfl (by decide)
      · replace h := it_f c10 h
        refine g_iconst C 1 dX4_goesTo_69 (by decide) ?_
        refine g_goto C 74 dX4_goesTo_70 (by decide) ?_
        obtain rfl := Option.some.inj h
        subst hQ
        exact g_zret C rfl (Or.inr rfl) hr hlk dX4_goesTo_74 [0, 1, 2, 3, 4, 5, 6, 7, 8] rfl (by decide)
  · replace h := it_t c3 h
    refine g_iconst C 0 dX4_goesTo_28 (by decide) ?_
    obtain rfl := Option.some.inj h
    subst hQ
    exact g_zret C rfl (Or.inl rfl) hr hlk dX4_goesTo_29 [0, 1, 2, 3, 4, 5, 6, 7, 8] rfl (by decide)
set_option maxRecDepth 100000 in
set_option maxHeartbeats 4000000 in
theorem kX4_extend_s21 (l : Launch) (Z : GZ) : ∀ (n : Nat) (a0 a0_image a0_order a0_allowed a0_signatures a0_targetSignatures a0_traces a0_targetTraces a0_tally a1 a1_sets : Nat) (o0 : OX4) (o1 : OX2) (o2 : OX2) (p3 : Int32) (p4 : Int32) (res : Int32 × OX4) (h : fX4_extend n o0 o1 o1 p3 p4 = some res), MI l Z yX4_extend cX4_extend 6 .boolean (2 * n + 2) (n * 51 + 48) [.ref a0, .ref a1, .ref a1, .int p3, .int p4] [(a0, .inr (4, [.ref a0_image, .ref a0_order, .ref a0_allowed, .ref a0_signatures, .ref a0_targetSignatures, .ref a0_traces, .ref a0_targetTraces, .ref a0_tally])), (a0_image, .inl (zI Z, 8, .inl (q4_image o0))), (a0_order, .inl (zI Z, 8, .inl (q4_order o0))), (a0_allowed, .inl (zI Z, 8, .inl (q4_allowed o0))), (a0_traces, .inl (zI Z, 10, .inl (q4_traces o0))), (a0_targetTraces, .inl (zI Z, 10, .inl (q4_targetTraces o0))), (a0_tally, .inl (zI Z, 256, .inl (q4_tally o0))), (a1, .inr (2, [.ref a1_sets, .int (q2_points o1), .int (q2_facets o1)])), (a1_sets, .inl (zI Z, 10, .inl (q2_sets o1)))] res.1 [(a0, .inr (4, [.ref a0_image, .ref a0_order, .ref a0_allowed, .ref a0_signatures, .ref a0_targetSignatures, .ref a0_traces, .ref a0_targetTraces, .ref a0_tally])), (a0_image, .inl (zI Z, 8, .inl (q4_image res.2))), (a0_order, .inl (zI Z, 8, .inl (q4_order o0))), (a0_allowed, .inl (zI Z, 8, .inl (q4_allowed o0))), (a0_traces, .inl (zI Z, 10, .inl (q4_traces res.2))), (a0_targetTraces, .inl (zI Z, 10, .inl (q4_targetTraces res.2))), (a0_tally, .inl (zI Z, 256, .inl (q4_tally res.2))), (a1, .inr (2, [.ref a1_sets, .int (q2_points o1), .int (q2_facets o1)])), (a1_sets, .inl (zI Z, 10, .inl (q2_sets o1)))] := by
  intro n
  induction n with
  | zero => intro a0 a0_image a0_order a0_allowed a0_signatures a0_targetSignatures a0_traces a0_targetTraces a0_tally a1 a1_sets o0 o1 o2 p3 p4 res h; cases h
  | succ n ih =>
  intro a0 a0_image a0_order a0_allowed a0_signatures a0_targetSignatures a0_traces a0_targetTraces a0_tally a1 a1_sets o0 o1 o2 p3 p4 res h
  have h : fX4_extend_B (fX4_extend n) o0 o1 o1 p3 p4 = some res := h
  refine MI_of (by decide +kernel) (Nat.le_of_ble_eq_true rfl) (fun {p e s m args below meth c} A R hR Q hQ C hr hlk => ?_)
  unfold fX4_extend_B at h
  refine g_lv [0, 1, 2, 3, 4] [(0, .ref a0), (1, .ref a1), (2, .ref a1), (3, .int p3), (4, .int p4)] rfl ?_
  refine g_iload_n C dX4_extend_0 rfl 3 rfl ?_
  refine g_aload_n C dX4_extend_1 rfl 1 rfl ?_
  refine g_get C 2 41 gin2 7 rfl rfl 1 (by decide) mw_1_76 rfl rfl dX4_extend_2 ?_
  refine g_icmp_lt C 10 dX4_extend_5 (by decide) (fun c1 => ?_) (fun c1 => ?_)
  · replace h := it_t c1 h
    refine g_iconst C 0 dX4_extend_10 (by decide) ?_
    refine g_istore C dX4_extend_11 (by decide) [(5, .int 0), (0, .ref a0), (1, .ref a1), (2, .ref a1), (3, .int p3), (4, .int p4)] rfl ?_
    refine g_lv [1, 2, 3, 4, 5, 0] [(0, .ref a0), (1, .ref a1), (2, .ref a1), (3, .int p3), (4, .int p4), (5, .int 0)] rfl ?_
    refine g_loop (lvf := fun v2 => [(0, .ref a0), (1, .ref a1), (2, .ref a1), (3, .int p3), (4, .int p4), (5, .int v2.1)]) (wsf := fun v2 => [(a0, .inr (4, [.ref a0_image, .ref a0_order, .ref a0_allowed, .ref a0_signatures, .ref a0_targetSignatures, .ref a0_traces, .ref a0_targetTraces, .ref a0_tally])), (a0_image, .inl (zI Z, 8, .inl v2.2.1)), (a0_order, .inl (zI Z, 8, .inl (q4_order o0))), (a0_allowed, .inl (zI Z, 8, .inl (q4_allowed o0))), (a0_traces, .inl (zI Z, 10, .inl v2.2.2.1)), (a0_targetTraces, .inl (zI Z, 10, .inl v2.2.2.2.1)), (a0_tally, .inl (zI Z, 256, .inl v2.2.2.2.2)), (a1, .inr (2, [.ref a1_sets, .int (q2_points o1), .int (q2_facets o1)])), (a1_sets, .inl (zI Z, 10, .inl (q2_sets o1)))]) h (fun v2 y1 h hk1 hx1 => ?_)
    refine g_eq (lv1 := [(0, .ref a0), (1, .ref a1), (2, .ref a1), (3, .int p3), (4, .int p4), (5, .int v2.1)]) (st1 := []) (ws1 := [(a0, .inr (4, [.ref a0_image, .ref a0_order, .ref a0_allowed, .ref a0_signatures, .ref a0_targetSignatures, .ref a0_traces, .ref a0_targetTraces, .ref a0_tally])), (a0_image, .inl (zI Z, 8, .inl v2.2.1)), (a0_order, .inl (zI Z, 8, .inl (q4_order o0))), (a0_allowed, .inl (zI Z, 8, .inl (q4_allowed o0))), (a0_traces, .inl (zI Z, 10, .inl v2.2.2.1)), (a0_targetTraces, .inl (zI Z, 10, .inl v2.2.2.2.1)), (a0_tally, .inl (zI Z, 256, .inl v2.2.2.2.2)), (a1, .inr (2, [.ref a1_sets, .int (q2_points o1), .int (q2_facets o1)])), (a1_sets, .inl (zI Z, 10, .inl (q2_sets o1)))]) rfl rfl rfl rfl ?_
    unfold fX4_extend_L13 at h
    refine g_iload C dX4_extend_13 5 rfl ?_
    refine g_aload_n C dX4_extend_15 rfl 2 rfl ?_
    refine g_get C 2 41 gin2 7 rfl rfl 1 (by decide) mw_1_76 rfl rfl dX4_extend_16 ?_
    refine g_icmp_ge C 44 dX4_extend_19 (by decide) (fun c3 => ?_) (fun c3 => ?_)
    · replace h := it_t c3 h
      obtain ⟨r4, h, hy⟩ := ex_of h
      rw [hx1 r4 hy] at h
      refine g_iconst C 0 dX4_extend_44 (by decide) ?_
      obtain rfl := Option.some.inj h
      subst hQ
      exact g_zret C rfl (Or.inl rfl) hr hlk dX4_extend_45 [0, 1, 2, 3, 4, 5, 6, 7, 8] rfl (by decide)
    · replace h := it_f c3 h
      refine g_aload_n C dX4_extend_22 rfl 0 rfl ?_
      refine g_iload C dX4_extend_23 5 rfl ?_
      refine g_aload_n C dX4_extend_25 rfl 1 rfl ?_
      refine g_aload_n C dX4_extend_26 rfl 2 rfl ?_
      refine g_iload_n C dX4_extend_27 rfl 3 rfl ?_
      refine g_iload C dX4_extend_28 4 rfl ?_
      obtain ⟨r5, hr6, h⟩ := bd_of h
      refine g_callVi C (kX4_goesTo_s32 l Z n ih a0 a0_image a0_order a0_allowed a0_signatures a0_targetSignatures a0_traces a0_targetTraces a0_tally a1 a1_sets (s4_tally (s4_targetTraces (s4_traces (s4_image o0 v2.2.1) v2.2.2.1) v2.2.2.2.1) v2.2.2.2.2) v2.1 o1 o1 p3 p4 r5 hr6) 0 rfl (ci := 4) rfl rfl myX4_goesTo 87 mw_3_56 rfl [0, 1, 2, 3, 4, 5, 6, 7, 8] [] [0, 1, 2, 3, 4, 5, 6, 7, 8] (wr := []) rfl rfl (by decide) (by decide) (by decide) [(a0, .inr (4, [.ref a0_image, .ref a0_order, .ref a0_allowed, .ref a0_signatures, .ref a0_targetSignatures, .ref a0_traces, .ref a0_targetTraces, .ref a0_tally])), (a0_image, .inl (zI Z, 8, .inl (q4_image r5.2))), (a0_order, .inl (zI Z, 8, .inl (q4_order o0))), (a0_allowed, .inl (zI Z, 8, .inl (q4_allowed o0))), (a0_traces, .inl (zI Z, 10, .inl (q4_traces r5.2))), (a0_targetTraces, .inl (zI Z, 10, .inl (q4_targetTraces r5.2))), (a0_tally, .inl (zI Z, 256, .inl (q4_tally r5.2))), (a1, .inr (2, [.ref a1_sets, .int (q2_points o1), .int (q2_facets o1)])), (a1_sets, .inl (zI Z, 10, .inl (q2_sets o1)))] rfl (by decide) (Nat.le_of_ble_eq_true rfl) (by rw [hR]; exact (by omega : (2 * n + 3) + 1 ≤ 2 * (n + 1) + 2)) (by rw [hR]; exact (by omega : 8 + (7 + 11) + (n * 51 + 73) ≤ (n + 1) * 51 + 48)) ⟨by rw [hR]; exact Nat.le_of_ble_eq_true rfl, by rw [hR]; exact Nat.le_of_ble_eq_true rfl⟩ rfl dX4_extend_30 ?_
      refine g_if_eq C 38 dX4_extend_33 (by decide) (fun c7 => ?_) (fun c7 => ?_)
      · replace h := it_t c7 h
        refine g_iinc C (v2.1 + 1) dX4_extend_38 5 rfl rfl (by decide) [(5, .int (v2.1 + 1)), (0, .ref a0), (1, .ref a1), (2, .ref a1), (3, .int p3), (4, .int p4)] rfl ?_
        refine g_goto C 13 dX4_extend_41 (by decide) ?_
        refine g_lv [1, 2, 3, 4, 5, 0] [(0, .ref a0), (1, .ref a1), (2, .ref a1), (3, .int p3), (4, .int p4), (5, .int (v2.1 + 1))] rfl ?_
        exact hk1 ((v2.1 + 1), (q4_image r5.2), (q4_traces r5.2), (q4_targetTraces r5.2), (q4_tally r5.2)) (Option.some.inj h).symm
      · replace h := it_f c7 h
        obtain ⟨r8, h, hy⟩ := ex_of h
        rw [hx1 r8 hy] at h
        refine g_iconst C 1 dX4_extend_36 (by decide) ?_
        obtain rfl := Option.some.inj h
        subst hQ
        exact g_zret C rfl (Or.inr rfl) hr hlk dX4_extend_37 [0, 1, 2, 3, 4, 5, 6, 7, 8] rfl (by decide)
  · replace h := it_f c1 h
    refine g_iconst C 1 dX4_extend_8 (by decide) ?_
    obtain rfl := Option.some.inj h
    subst hQ
    exact g_zret C rfl (Or.inr rfl) hr hlk dX4_extend_9 [0, 1, 2, 3, 4, 5, 6, 7, 8] rfl (by decide)
set_option maxRecDepth 100000 in
set_option maxHeartbeats 4000000 in
theorem kX4_search_s21 (l : Launch) (Z : GZ) (a0 a0_image a0_order a0_allowed a0_signatures a0_targetSignatures a0_traces a0_targetTraces a0_tally a1 a1_sets : Nat) (o0 : OX4) (o1 : OX2) (o2 : OX2) (res : Int32 × OX4) (h : fX4_search o0 o1 o1 = some res) : MI l Z yX4_search cX4_search 3 .boolean 23 583 [.ref a0, .ref a1, .ref a1] [(a0, .inr (4, [.ref a0_image, .ref a0_order, .ref a0_allowed, .ref a0_signatures, .ref a0_targetSignatures, .ref a0_traces, .ref a0_targetTraces, .ref a0_tally])), (a0_image, .inl (zI Z, 8, .inl (q4_image o0))), (a0_order, .inl (zI Z, 8, .inl (q4_order o0))), (a0_allowed, .inl (zI Z, 8, .inl (q4_allowed o0))), (a0_traces, .inl (zI Z, 10, .inl (q4_traces o0))), (a0_targetTraces, .inl (zI Z, 10, .inl (q4_targetTraces o0))), (a0_tally, .inl (zI Z, 256, .inl (q4_tally o0))), (a1, .inr (2, [.ref a1_sets, .int (q2_points o1), .int (q2_facets o1)])), (a1_sets, .inl (zI Z, 10, .inl (q2_sets o1)))] res.1 [(a0, .inr (4, [.ref a0_image, .ref a0_order, .ref a0_allowed, .ref a0_signatures, .ref a0_targetSignatures, .ref a0_traces, .ref a0_targetTraces, .ref a0_tally])), (a0_image, .inl (zI Z, 8, .inl (q4_image res.2))), (a0_order, .inl (zI Z, 8, .inl (q4_order o0))), (a0_allowed, .inl (zI Z, 8, .inl (q4_allowed o0))), (a0_traces, .inl (zI Z, 10, .inl (q4_traces res.2))), (a0_targetTraces, .inl (zI Z, 10, .inl (q4_targetTraces res.2))), (a0_tally, .inl (zI Z, 256, .inl (q4_tally res.2))), (a1, .inr (2, [.ref a1_sets, .int (q2_points o1), .int (q2_facets o1)])), (a1_sets, .inl (zI Z, 10, .inl (q2_sets o1)))] := by
  refine MI_of (by decide +kernel) (Nat.le_of_ble_eq_true rfl) (fun {p e s m args below meth c} A R hR Q hQ C hr hlk => ?_)
  unfold fX4_search at h
  refine g_lv [0, 1, 2] [(0, .ref a0), (1, .ref a1), (2, .ref a1)] rfl ?_
  refine g_aload_n C dX4_search_0 rfl 1 rfl ?_
  refine g_get C 2 41 gin2 7 rfl rfl 1 (by decide) mw_1_76 rfl rfl dX4_search_1 ?_
  refine g_aload_n C dX4_search_4 rfl 2 rfl ?_
  refine g_get C 2 41 gin2 7 rfl rfl 1 (by decide) mw_1_76 rfl rfl dX4_search_5 ?_
  refine g_icmp_ne C 37 dX4_search_8 (by decide) (fun c1 => ?_) (fun c1 => ?_)
  · replace h := it_f c1 h
    refine g_iconst C 0 dX4_search_37 (by decide) ?_
    obtain rfl := Option.some.inj h
    subst hQ
    exact g_zret C rfl (Or.inl rfl) hr hlk dX4_search_38 [0, 1, 2, 3, 4, 5, 6, 7, 8] rfl (by decide)
  · replace h := it_t c1 h
    refine g_aload_n C dX4_search_11 rfl 1 rfl ?_
    refine g_get C 2 73 gin2 7 rfl rfl 2 (by decide) mw_1_83 rfl rfl dX4_search_12 ?_
    refine g_aload_n C dX4_search_15 rfl 2 rfl ?_
    refine g_get C 2 73 gin2 7 rfl rfl 2 (by decide) mw_1_83 rfl rfl dX4_search_16 ?_
    refine g_icmp_ne C 37 dX4_search_19 (by decide) (fun c2 => ?_) (fun c2 => ?_)
    · replace h := it_f c2 h
      refine g_iconst C 0 dX4_search_37 (by decide) ?_
      obtain rfl := Option.some.inj h
      subst hQ
      exact g_zret C rfl (Or.inl rfl) hr hlk dX4_search_38 [0, 1, 2, 3, 4, 5, 6, 7, 8] rfl (by decide)
    · replace h := it_t c2 h
      refine g_aload_n C dX4_search_22 rfl 0 rfl ?_
      refine g_aload_n C dX4_search_23 rfl 1 rfl ?_
      refine g_aload_n C dX4_search_24 rfl 2 rfl ?_
      refine g_iconst C 0 dX4_search_25 (by decide) ?_
      refine g_iconst C 0 dX4_search_26 (by decide) ?_
      obtain ⟨r3, hr4, h⟩ := bd_of h
      refine g_callVi C (kX4_extend_s21 l Z 10 a0 a0_image a0_order a0_allowed a0_signatures a0_targetSignatures a0_traces a0_targetTraces a0_tally a1 a1_sets o0 o1 o1 0 0 r3 hr4) 0 rfl (ci := 4) rfl rfl myX4_extend 83 mw_3_52 rfl [0, 1, 2, 3, 4, 5, 6, 7, 8] [] [0, 1, 2, 3, 4, 5, 6, 7, 8] (wr := []) rfl rfl (by decide) (by decide) (by decide) [(a0, .inr (4, [.ref a0_image, .ref a0_order, .ref a0_allowed, .ref a0_signatures, .ref a0_targetSignatures, .ref a0_traces, .ref a0_targetTraces, .ref a0_tally])), (a0_image, .inl (zI Z, 8, .inl (q4_image r3.2))), (a0_order, .inl (zI Z, 8, .inl (q4_order o0))), (a0_allowed, .inl (zI Z, 8, .inl (q4_allowed o0))), (a0_traces, .inl (zI Z, 10, .inl (q4_traces r3.2))), (a0_targetTraces, .inl (zI Z, 10, .inl (q4_targetTraces r3.2))), (a0_tally, .inl (zI Z, 256, .inl (q4_tally r3.2))), (a1, .inr (2, [.ref a1_sets, .int (q2_points o1), .int (q2_facets o1)])), (a1_sets, .inl (zI Z, 10, .inl (q2_sets o1)))] rfl (by decide) (Nat.le_of_ble_eq_true rfl) (by rw [hR]; exact Nat.le_of_ble_eq_true rfl) (by rw [hR]; exact Nat.le_of_ble_eq_true rfl) ⟨by rw [hR]; exact Nat.le_of_ble_eq_true rfl, by rw [hR]; exact Nat.le_of_ble_eq_true rfl⟩ rfl dX4_search_27 ?_
      refine g_if_eq C 37 dX4_search_30 (by decide) (fun c5 => ?_) (fun c5 => ?_)
      · replace h := it_t c5 h
        refine g_iconst C 0 dX4_search_37 (by decide) ?_
        obtain rfl := Option.some.inj h
        subst hQ
        exact g_zret C rfl (Or.inl rfl) hr hlk dX4_search_38 [0, 1, 2, 3, 4, 5, 6, 7, 8] rfl (by decide)
      · replace h := it_f c5 h
        refine g_iconst C 1 dX4_search_33 (by decide) ?_
        refine g_goto C 38 dX4_search_34 (by decide) ?_
        obtain rfl := Option.some.inj h
        subst hQ
        exact g_zret C rfl (Or.inr rfl) hr hlk dX4_search_38 [0, 1, 2, 3, 4, 5, 6, 7, 8] rfl (by decide)
set_option maxRecDepth 100000 in
set_option maxHeartbeats 4000000 in
theorem kX4_begin_s21 (l : Launch) (Z : GZ) (a0 a0_image a0_order a0_allowed a0_signatures a0_targetSignatures a0_traces a0_targetTraces a0_tally a1 a1_sets : Nat) (o0 : OX4) (o1 : OX2) (o2 : OX2) (p3 : Int32) (res : OX4) (h : fX4_begin o0 o1 o1 p3 = some res) : MV l Z yX4_begin cX4_begin 5 2 45 [.ref a0, .ref a1, .ref a1, .int p3] [(a0, .inr (4, [.ref a0_image, .ref a0_order, .ref a0_allowed, .ref a0_signatures, .ref a0_targetSignatures, .ref a0_traces, .ref a0_targetTraces, .ref a0_tally])), (a0_order, .inl (zI Z, 8, .inl (q4_order o0))), (a0_allowed, .inl (zI Z, 8, .inl (q4_allowed o0))), (a0_signatures, .inl (zJ Z, 8, .inr (.inl (q4_signatures o0)))), (a0_targetSignatures, .inl (zJ Z, 8, .inr (.inl (q4_targetSignatures o0)))), (a1, .inr (2, [.ref a1_sets, .int (q2_points o1), .int (q2_facets o1)])), (a1_sets, .inl (zI Z, 10, .inl (q2_sets o1)))] [(a0, .inr (4, [.ref a0_image, .ref a0_order, .ref a0_allowed, .ref a0_signatures, .ref a0_targetSignatures, .ref a0_traces, .ref a0_targetTraces, .ref a0_tally])), (a0_order, .inl (zI Z, 8, .inl (q4_order res))), (a0_allowed, .inl (zI Z, 8, .inl (q4_allowed res))), (a0_signatures, .inl (zJ Z, 8, .inr (.inl (q4_signatures res)))), (a0_targetSignatures, .inl (zJ Z, 8, .inr (.inl (q4_targetSignatures res)))), (a1, .inr (2, [.ref a1_sets, .int (q2_points o1), .int (q2_facets o1)])), (a1_sets, .inl (zI Z, 10, .inl (q2_sets o1)))] := by
  refine MV_of (by decide +kernel) (Nat.le_of_ble_eq_true rfl) (fun {p e s m args below meth c} A R hR Q hQ C hr hlk => ?_)
  unfold fX4_begin at h
  refine g_lv [0, 1, 2, 3] [(0, .ref a0), (1, .ref a1), (2, .ref a1), (3, .int p3)] rfl ?_
  refine g_aload_n C dX4_begin_0 rfl 1 rfl ?_
  refine g_aload_n C dX4_begin_1 rfl 0 rfl ?_
  refine g_get C 4 21 gin4 0 rfl rfl 3 (by decide) mw_1_166 rfl rfl dX4_begin_2 ?_
  obtain ⟨r1, hr2, h⟩ := bd_of h
  refine g_callSv C (kX4_sign l Z a1 a1_sets a0_signatures o1 (q4_signatures o0) r1 hr2) myX4_sign 65 mw_3_33 rfl [5, 6, 3] [0, 1, 2, 4] [0, 1, 2, 6, 3, 4, 5] (wr := [(a0, .inr (4, [.ref a0_image, .ref a0_order, .ref a0_allowed, .ref a0_signatures, .ref a0_targetSignatures, .ref a0_traces, .ref a0_targetTraces, .ref a0_tally])), (a0_order, .inl (zI Z, 8, .inl (q4_order o0))), (a0_allowed, .inl (zI Z, 8, .inl (q4_allowed o0))), (a0_targetSignatures, .inl (zJ Z, 8, .inr (.inl (q4_targetSignatures o0))))]) rfl rfl (by decide) (by decide) (by decide) [(a0, .inr (4, [.ref a0_image, .ref a0_order, .ref a0_allowed, .ref a0_signatures, .ref a0_targetSignatures, .ref a0_traces, .ref a0_targetTraces, .ref a0_tally])), (a0_order, .inl (zI Z, 8, .inl (q4_order o0))), (a0_allowed, .inl (zI Z, 8, .inl (q4_allowed o0))), (a0_signatures, .inl (zJ Z, 8, .inr (.inl r1))), (a0_targetSignatures, .inl (zJ Z, 8, .inr (.inl (q4_targetSignatures o0)))), (a1, .inr (2, [.ref a1_sets, .int (q2_points o1), .int (q2_facets o1)])), (a1_sets, .inl (zI Z, 10, .inl (q2_sets o1)))] rfl (by decide) (Nat.le_of_ble_eq_true rfl) (by rw [hR]; exact Nat.le_of_ble_eq_true rfl) (by rw [hR]; exact Nat.le_of_ble_eq_true rfl) ⟨by rw [hR]; exact Nat.le_of_ble_eq_true rfl, by rw [hR]; exact Nat.le_of_ble_eq_true rfl⟩ rfl dX4_begin_5 ?_
  refine g_aload_n C dX4_begin_8 rfl 2 rfl ?_
  refine g_aload_n C dX4_begin_9 rfl 0 rfl ?_
  refine g_get C 4 25 gin4 0 rfl rfl 4 (by decide) mw_1_167 rfl rfl dX4_begin_10 ?_
  obtain ⟨r3, hr4, h⟩ := bd_of h
  refine g_callSv C (kX4_sign l Z a1 a1_sets a0_targetSignatures o1 (q4_targetSignatures o0) r3 hr4) myX4_sign 65 mw_3_33 rfl [5, 6, 4] [0, 1, 2, 3] [0, 1, 2, 3, 6, 4, 5] (wr := [(a0, .inr (4, [.ref a0_image, .ref a0_order, .ref a0_allowed, .ref a0_signatures, .ref a0_targetSignatures, .ref a0_traces, .ref a0_targetTraces, .ref a0_tally])), (a0_order, .inl (zI Z, 8, .inl (q4_order o0))), (a0_allowed, .inl (zI Z, 8, .inl (q4_allowed o0))), (a0_signatures, .inl (zJ Z, 8, .inr (.inl r1)))]) rfl rfl (by decide) (by decide) (by decide) [(a0, .inr (4, [.ref a0_image, .ref a0_order, .ref a0_allowed, .ref a0_signatures, .ref a0_targetSignatures, .ref a0_traces, .ref a0_targetTraces, .ref a0_tally])), (a0_order, .inl (zI Z, 8, .inl (q4_order o0))), (a0_allowed, .inl (zI Z, 8, .inl (q4_allowed o0))), (a0_signatures, .inl (zJ Z, 8, .inr (.inl r1))), (a0_targetSignatures, .inl (zJ Z, 8, .inr (.inl r3))), (a1, .inr (2, [.ref a1_sets, .int (q2_points o1), .int (q2_facets o1)])), (a1_sets, .inl (zI Z, 10, .inl (q2_sets o1)))] rfl (by decide) (Nat.le_of_ble_eq_true rfl) (by rw [hR]; exact Nat.le_of_ble_eq_true rfl) (by rw [hR]; exact Nat.le_of_ble_eq_true rfl) ⟨by rw [hR]; exact Nat.le_of_ble_eq_true rfl, by rw [hR]; exact Nat.le_of_ble_eq_true rfl⟩ rfl dX4_begin_13 ?_
  refine g_iconst C 0 dX4_begin_16 (by decide) ?_
  refine g_istore C dX4_begin_17 (by decide) [(4, .int 0), (0, .ref a0), (1, .ref a1), (2, .ref a1), (3, .int p3)] rfl ?_
  refine g_lv [1, 2, 3, 4, 0] [(0, .ref a0), (1, .ref a1), (2, .ref a1), (3, .int p3), (4, .int 0)] rfl ?_
  refine g_loop (lvf := fun v5 => [(0, .ref a0), (1, .ref a1), (2, .ref a1), (3, .int p3), (4, .int v5.1)]) (wsf := fun v5 => [(a0, .inr (4, [.ref a0_image, .ref a0_order, .ref a0_allowed, .ref a0_signatures, .ref a0_targetSignatures, .ref a0_traces, .ref a0_targetTraces, .ref a0_tally])), (a0_order, .inl (zI Z, 8, .inl v5.2.1)), (a0_allowed, .inl (zI Z, 8, .inl v5.2.2)), (a0_signatures, .inl (zJ Z, 8, .inr (.inl r1))), (a0_targetSignatures, .inl (zJ Z, 8, .inr (.inl r3))), (a1, .inr (2, [.ref a1_sets, .int (q2_points o1), .int (q2_facets o1)])), (a1_sets, .inl (zI Z, 10, .inl (q2_sets o1)))]) h (fun v5 y1 h hk1 hx1 => ?_)
  refine g_eq (lv1 := [(0, .ref a0), (1, .ref a1), (2, .ref a1), (3, .int p3), (4, .int v5.1)]) (st1 := []) (ws1 := [(a0, .inr (4, [.ref a0_image, .ref a0_order, .ref a0_allowed, .ref a0_signatures, .ref a0_targetSignatures, .ref a0_traces, .ref a0_targetTraces, .ref a0_tally])), (a0_order, .inl (zI Z, 8, .inl v5.2.1)), (a0_allowed, .inl (zI Z, 8, .inl v5.2.2)), (a0_signatures, .inl (zJ Z, 8, .inr (.inl r1))), (a0_targetSignatures, .inl (zJ Z, 8, .inr (.inl r3))), (a1, .inr (2, [.ref a1_sets, .int (q2_points o1), .int (q2_facets o1)])), (a1_sets, .inl (zI Z, 10, .inl (q2_sets o1)))]) rfl rfl rfl rfl ?_
  unfold fX4_begin_L19 at h
  refine g_iload C dX4_begin_19 4 rfl ?_
  refine g_aload_n C dX4_begin_21 rfl 1 rfl ?_
  refine g_get C 2 41 gin2 5 rfl rfl 1 (by decide) mw_1_76 rfl rfl dX4_begin_22 ?_
  refine g_icmp_ge C 90 dX4_begin_25 (by decide) (fun c6 => ?_) (fun c6 => ?_)
  · replace h := it_t c6 h
    obtain ⟨r7, h, hy⟩ := ex_of h
    rw [hx1 r7 hy] at h
    obtain rfl := Option.some.inj h
    subst hQ
    exact g_vret C hr hlk dX4_begin_90 [0, 1, 2, 3, 4, 5, 6] rfl (by decide)
  · replace h := it_f c6 h
    refine g_aload_n C dX4_begin_28 rfl 0 rfl ?_
    refine g_get C 4 15 gin4 0 rfl rfl 1 (by decide) mw_1_164 rfl rfl dX4_begin_29 ?_
    refine g_iload C dX4_begin_32 4 rfl ?_
    refine g_iload C dX4_begin_34 4 rfl ?_
    have hj58 : ∀ (x8 : Int32), fX4_begin_J58 o1 r1 r3 v5 x8 = some y1 → Gw p l e R s m args below meth c 5 Z A Q 0 0 58 [(0, .ref a0), (1, .ref a1), (2, .ref a1), (3, .int p3), (4, .int v5.1)] [.int x8, .int v5.1, .ref a0_order] [(a0, .inr (4, [.ref a0_image, .ref a0_order, .ref a0_allowed, .ref a0_signatures, .ref a0_targetSignatures, .ref a0_traces, .ref a0_targetTraces, .ref a0_tally])), (a0_order, .inl (zI Z, 8, .inl v5.2.1)), (a0_allowed, .inl (zI Z, 8, .inl v5.2.2)), (a0_signatures, .inl (zJ Z, 8, .inr (.inl r1))), (a0_targetSignatures, .inl (zJ Z, 8, .inr (.inl r3))), (a1, .inr (2, [.ref a1_sets, .int (q2_points o1), .int (q2_facets o1)])), (a1_sets, .inl (zI Z, 10, .inl (q2_sets o1)))] := by
      intro x8 h
      unfold fX4_begin_J58 at h
      obtain ⟨hi9, h⟩ := ck_of h
      refine g_iast C 1 rfl hi9 [(a0, .inr (4, [.ref a0_image, .ref a0_order, .ref a0_allowed, .ref a0_signatures, .ref a0_targetSignatures, .ref a0_traces, .ref a0_targetTraces, .ref a0_tally])), (a0_order, .inl (zI Z, 8, .inl (upd v5.2.1 (ix v5.1) x8))), (a0_allowed, .inl (zI Z, 8, .inl v5.2.2)), (a0_signatures, .inl (zJ Z, 8, .inr (.inl r1))), (a0_targetSignatures, .inl (zJ Z, 8, .inr (.inl r3))), (a1, .inr (2, [.ref a1_sets, .int (q2_points o1), .int (q2_facets o1)])), (a1_sets, .inl (zI Z, 10, .inl (q2_sets o1)))] rfl dX4_begin_58 ?_
      refine g_aload_n C dX4_begin_59 rfl 0 rfl ?_
      refine g_get C 4 18 gin4 0 rfl rfl 2 (by decide) mw_1_165 rfl rfl dX4_begin_60 ?_
      refine g_iload C dX4_begin_63 4 rfl ?_
      refine g_aload_n C dX4_begin_65 rfl 0 rfl ?_
      refine g_get C 4 21 gin4 0 rfl rfl 3 (by decide) mw_1_166 rfl rfl dX4_begin_66 ?_
      refine g_iload C dX4_begin_69 4 rfl ?_
      obtain ⟨hi10, h⟩ := ck_of h
      refine g_lald C 3 rfl hi10 dX4_begin_71 ?_
      refine g_aload_n C dX4_begin_72 rfl 0 rfl ?_
      refine g_get C 4 25 gin4 0 rfl rfl 4 (by decide) mw_1_167 rfl rfl dX4_begin_73 ?_
      refine g_aload_n C dX4_begin_76 rfl 2 rfl ?_
      refine g_get C 2 41 gin2 5 rfl rfl 1 (by decide) mw_1_76 rfl rfl dX4_begin_77 ?_
      obtain ⟨r11, hr12, h⟩ := bd_of h
      refine g_callSi C (kX4_alike l Z a0_targetSignatures (r1 (ix v5.1)) r3 (q2_points o1) r11 hr12) myX4_alike 69 mw_3_41 rfl [4] [0, 1, 2, 3, 5, 6] [0, 1, 2, 3, 6, 4, 5] (wr := [(a0, .inr (4, [.ref a0_image, .ref a0_order, .ref a0_allowed, .ref a0_signatures, .ref a0_targetSignatures, .ref a0_traces, .ref a0_targetTraces, .ref a0_tally])), (a0_order, .inl (zI Z, 8, .inl (upd v5.2.1 (ix v5.1) x8))), (a0_allowed, .inl (zI Z, 8, .inl v5.2.2)), (a0_signatures, .inl (zJ Z, 8, .inr (.inl r1))), (a1, .inr (2, [.ref a1_sets, .int (q2_points o1), .int (q2_facets o1)])), (a1_sets, .inl (zI Z, 10, .inl (q2_sets o1)))]) rfl rfl (by decide) (by decide) (by decide) [(a0, .inr (4, [.ref a0_image, .ref a0_order, .ref a0_allowed, .ref a0_signatures, .ref a0_targetSignatures, .ref a0_traces, .ref a0_targetTraces, .ref a0_tally])), (a0_order, .inl (zI Z, 8, .inl (upd v5.2.1 (ix v5.1) x8))), (a0_allowed, .inl (zI Z, 8, .inl v5.2.2)), (a0_signatures, .inl (zJ Z, 8, .inr (.inl r1))), (a0_targetSignatures, .inl (zJ Z, 8, .inr (.inl r3))), (a1, .inr (2, [.ref a1_sets, .int (q2_points o1), .int (q2_facets o1)])), (a1_sets, .inl (zI Z, 10, .inl (q2_sets o1)))] rfl (by decide) (Nat.le_of_ble_eq_true rfl) (by rw [hR]; exact Nat.le_of_ble_eq_true rfl) (by rw [hR]; exact Nat.le_of_ble_eq_true rfl) ⟨by rw [hR]; exact Nat.le_of_ble_eq_true rfl, by rw [hR]; exact Nat.le_of_ble_eq_true rfl⟩ rfl dX4_begin_80 ?_
      obtain ⟨hi13, h⟩ := ck_of h
      refine g_iast C 2 rfl hi13 [(a0, .inr (4, [.ref a0_image, .ref a0_order, .ref a0_allowed, .ref a0_signatures, .ref a0_targetSignatures, .ref a0_traces, .ref a0_targetTraces, .ref a0_tally])), (a0_order, .inl (zI Z, 8, .inl (upd v5.2.1 (ix v5.1) x8))), (a0_allowed, .inl (zI Z, 8, .inl (upd v5.2.2 (ix v5.1) r11))), (a0_signatures, .inl (zJ Z, 8, .inr (.inl r1))), (a0_targetSignatures, .inl (zJ Z, 8, .inr (.inl r3))), (a1, .inr (2, [.ref a1_sets, .int (q2_points o1), .int (q2_facets o1)])), (a1_sets, .inl (zI Z, 10, .inl (q2_sets o1)))] rfl dX4_begin_83 ?_
      refine g_iinc C (v5.1 + 1) dX4_begin_84 4 rfl rfl (by decide) [(4, .int (v5.1 + 1)), (0, .ref a0), (1, .ref a1), (2, .ref a1), (3, .int p3)] rfl ?_
      refine g_goto C 19 dX4_begin_87 (by decide) ?_
      refine g_lv [1, 2, 3, 4, 0] [(0, .ref a0), (1, .ref a1), (2, .ref a1), (3, .int p3), (4, .int (v5.1 + 1))] rfl ?_
      exact hk1 ((v5.1 + 1), (upd v5.2.1 (ix v5.1) x8), (upd v5.2.2 (ix v5.1) r11)) (Option.some.inj h).symm
    refine g_if_ne C 43 dX4_begin_36 (by decide) (fun c14 => ?_) (fun c14 => ?_)
    · replace h := it_f c14 h
      refine g_iload C dX4_begin_43 4 rfl ?_
      refine g_iload_n C dX4_begin_45 rfl 3 rfl ?_
      refine g_icmp_gt C 56 dX4_begin_46 (by decide) (fun c15 => ?_) (fun c15 => ?_)
      · replace h := it_t c15 h
        refine g_iload C dX4_begin_56 4 rfl ?_
        exact hj58 v5.1 h
      · replace h := it_f c15 h
        refine g_iload C dX4_begin_49 4 rfl ?_
        refine g_iconst C 1 dX4_begin_51 (by decide) ?_
        refine g_isub C dX4_begin_52 ?_
        refine g_goto C 58 dX4_begin_53 (by decide) ?_
        exact hj58 (v5.1 - 1) h
    · replace h := it_t c14 h
      refine g_iload_n C dX4_begin_39 rfl 3 rfl ?_
      refine g_goto C 58 dX4_begin_40 (by decide) ?_
      exact hj58 p3 h
def fX4_imagesOf_L13 (o0 : OX4) (p1 : Int32) (o2 : OX2) (v2 : Int32 × Int32 × (Nat → Int32) × (Nat → Int32) × (Nat → Int32) × (Nat → Int32) × (Nat → Int32)) : Option ((Int32 × Int32 × (Nat → Int32) × (Nat → Int32) × (Nat → Int32) × (Nat → Int32) × (Nat → Int32)) ⊕ (Int32 × OX4)) :=
  if (q2_points o2) ≤ v2.2.1 then (ex (some (v2.1, (s4_tally (s4_targetTraces (s4_traces (s4_allowed (s4_image o0 v2.2.2.1) v2.2.2.2.1) v2.2.2.2.2.1) v2.2.2.2.2.2.1) v2.2.2.2.2.2.2))))
  else (ck (okI p1 8) (ck (okI p1 8) (if ((upd v2.2.2.2.1 (ix p1) (((q4_allowed o0) (ix p1)) &&& (jshl 1 v2.2.1))) (ix p1)) = 0 then (some (.inl (v2.1, (v2.2.1 + 1), v2.2.2.1, (upd v2.2.2.2.1 (ix p1) (((q4_allowed o0) (ix p1)) &&& (jshl 1 v2.2.1))), v2.2.2.2.2.1, v2.2.2.2.2.2.1, v2.2.2.2.2.2.2)))
  else ((fX4_search (s4_tally (s4_targetTraces (s4_traces (s4_allowed (s4_image o0 v2.2.2.1) (upd v2.2.2.2.1 (ix p1) (((q4_allowed o0) (ix p1)) &&& (jshl 1 v2.2.1)))) v2.2.2.2.2.1) v2.2.2.2.2.2.1) v2.2.2.2.2.2.2) o2 o2).bind fun r8 =>
  (if r8.1 = 0 then (some (.inl (v2.1, (v2.2.1 + 1), (q4_image r8.2), (upd v2.2.2.2.1 (ix p1) (((q4_allowed o0) (ix p1)) &&& (jshl 1 v2.2.1))), (q4_traces r8.2), (q4_targetTraces r8.2), (q4_tally r8.2))))
  else (some (.inl ((v2.1 ||| (jshl 1 v2.2.1)), (v2.2.1 + 1), (q4_image r8.2), (upd v2.2.2.2.1 (ix p1) (((q4_allowed o0) (ix p1)) &&& (jshl 1 v2.2.1))), (q4_traces r8.2), (q4_targetTraces r8.2), (q4_tally r8.2)))))))))
def fX4_imagesOf (o0 : OX4) (p1 : Int32) (o2 : OX2) : Option (Int32 × OX4) :=
  ck (okI p1 8) (lp (fX4_imagesOf_L13 o0 p1 o2) lpN (0, 0, (q4_image o0), (q4_allowed o0), (q4_traces o0), (q4_targetTraces o0), (q4_tally o0)))
theorem myX4_imagesOf : MYv yX4_imagesOf cX4_imagesOf 6 (some .int) 2 := ⟨mw_3_46, ms_14, mw_3_47, mw_1_7, ⟨by decide +kernel, by decide +kernel⟩, by decide +kernel⟩
set_option maxRecDepth 100000 in
set_option maxHeartbeats 4000000 in
theorem kX4_imagesOf (l : Launch) (Z : GZ) (a0 a0_image a0_order a0_allowed a0_signatures a0_targetSignatures a0_traces a0_targetTraces a0_tally a2 a2_sets : Nat) (o0 : OX4) (p1 : Int32) (o2 : OX2) (res : Int32 × OX4) (h : fX4_imagesOf o0 p1 o2 = some res) : MI l Z yX4_imagesOf cX4_imagesOf 6 .int 24 605 [.ref a0, .int p1, .ref a2] [(a0, .inr (4, [.ref a0_image, .ref a0_order, .ref a0_allowed, .ref a0_signatures, .ref a0_targetSignatures, .ref a0_traces, .ref a0_targetTraces, .ref a0_tally])), (a0_image, .inl (zI Z, 8, .inl (q4_image o0))), (a0_order, .inl (zI Z, 8, .inl (q4_order o0))), (a0_allowed, .inl (zI Z, 8, .inl (q4_allowed o0))), (a0_traces, .inl (zI Z, 10, .inl (q4_traces o0))), (a0_targetTraces, .inl (zI Z, 10, .inl (q4_targetTraces o0))), (a0_tally, .inl (zI Z, 256, .inl (q4_tally o0))), (a2, .inr (2, [.ref a2_sets, .int (q2_points o2), .int (q2_facets o2)])), (a2_sets, .inl (zI Z, 10, .inl (q2_sets o2)))] res.1 [(a0, .inr (4, [.ref a0_image, .ref a0_order, .ref a0_allowed, .ref a0_signatures, .ref a0_targetSignatures, .ref a0_traces, .ref a0_targetTraces, .ref a0_tally])), (a0_image, .inl (zI Z, 8, .inl (q4_image res.2))), (a0_order, .inl (zI Z, 8, .inl (q4_order o0))), (a0_allowed, .inl (zI Z, 8, .inl (q4_allowed res.2))), (a0_traces, .inl (zI Z, 10, .inl (q4_traces res.2))), (a0_targetTraces, .inl (zI Z, 10, .inl (q4_targetTraces res.2))), (a0_tally, .inl (zI Z, 256, .inl (q4_tally res.2))), (a2, .inr (2, [.ref a2_sets, .int (q2_points o2), .int (q2_facets o2)])), (a2_sets, .inl (zI Z, 10, .inl (q2_sets o2)))] := by
  refine MI_of (by decide +kernel) (Nat.le_of_ble_eq_true rfl) (fun {p e s m args below meth c} A R hR Q hQ C hr hlk => ?_)
  unfold fX4_imagesOf at h
  refine g_lv [0, 1, 2] [(0, .ref a0), (1, .int p1), (2, .ref a2)] rfl ?_
  refine g_aload_n C dX4_imagesOf_0 rfl 0 rfl ?_
  refine g_get C 4 18 gin4 0 rfl rfl 2 (by decide) mw_1_165 rfl rfl dX4_imagesOf_1 ?_
  refine g_iload_n C dX4_imagesOf_4 rfl 1 rfl ?_
  obtain ⟨hi1, h⟩ := ck_of h
  refine g_iald C 3 rfl hi1 dX4_imagesOf_5 ?_
  refine g_istore_n C dX4_imagesOf_6 rfl (by decide) [(3, .int ((q4_allowed o0) (ix p1))), (0, .ref a0), (1, .int p1), (2, .ref a2)] rfl ?_
  refine g_iconst C 0 dX4_imagesOf_7 (by decide) ?_
  refine g_istore C dX4_imagesOf_8 (by decide) [(4, .int 0), (3, .int ((q4_allowed o0) (ix p1))), (0, .ref a0), (1, .int p1), (2, .ref a2)] rfl ?_
  refine g_iconst C 0 dX4_imagesOf_10 (by decide) ?_
  refine g_istore C dX4_imagesOf_11 (by decide) [(5, .int 0), (4, .int 0), (3, .int ((q4_allowed o0) (ix p1))), (0, .ref a0), (1, .int p1), (2, .ref a2)] rfl ?_
  refine g_lv [3, 4, 5, 2, 1, 0] [(0, .ref a0), (1, .int p1), (2, .ref a2), (3, .int ((q4_allowed o0) (ix p1))), (4, .int 0), (5, .int 0)] rfl ?_
  refine g_loop (lvf := fun v2 => [(0, .ref a0), (1, .int p1), (2, .ref a2), (3, .int ((q4_allowed o0) (ix p1))), (4, .int v2.1), (5, .int v2.2.1)]) (wsf := fun v2 => [(a0, .inr (4, [.ref a0_image, .ref a0_order, .ref a0_allowed, .ref a0_signatures, .ref a0_targetSignatures, .ref a0_traces, .ref a0_targetTraces, .ref a0_tally])), (a0_image, .inl (zI Z, 8, .inl v2.2.2.1)), (a0_order, .inl (zI Z, 8, .inl (q4_order o0))), (a0_allowed, .inl (zI Z, 8, .inl v2.2.2.2.1)), (a0_traces, .inl (zI Z, 10, .inl v2.2.2.2.2.1)), (a0_targetTraces, .inl (zI Z, 10, .inl v2.2.2.2.2.2.1)), (a0_tally, .inl (zI Z, 256, .inl v2.2.2.2.2.2.2)), (a2, .inr (2, [.ref a2_sets, .int (q2_points o2), .int (q2_facets o2)])), (a2_sets, .inl (zI Z, 10, .inl (q2_sets o2)))]) h (fun v2 y1 h hk1 hx1 => ?_)
  refine g_eq (lv1 := [(0, .ref a0), (1, .int p1), (2, .ref a2), (3, .int ((q4_allowed o0) (ix p1))), (4, .int v2.1), (5, .int v2.2.1)]) (st1 := []) (ws1 := [(a0, .inr (4, [.ref a0_image, .ref a0_order, .ref a0_allowed, .ref a0_signatures, .ref a0_targetSignatures, .ref a0_traces, .ref a0_targetTraces, .ref a0_tally])), (a0_image, .inl (zI Z, 8, .inl v2.2.2.1)), (a0_order, .inl (zI Z, 8, .inl (q4_order o0))), (a0_allowed, .inl (zI Z, 8, .inl v2.2.2.2.1)), (a0_traces, .inl (zI Z, 10, .inl v2.2.2.2.2.1)), (a0_targetTraces, .inl (zI Z, 10, .inl v2.2.2.2.2.2.1)), (a0_tally, .inl (zI Z, 256, .inl v2.2.2.2.2.2.2)), (a2, .inr (2, [.ref a2_sets, .int (q2_points o2), .int (q2_facets o2)])), (a2_sets, .inl (zI Z, 10, .inl (q2_sets o2)))]) rfl rfl rfl rfl ?_
  unfold fX4_imagesOf_L13 at h
  refine g_iload C dX4_imagesOf_13 5 rfl ?_
  refine g_aload_n C dX4_imagesOf_15 rfl 2 rfl ?_
  refine g_get C 2 41 gin2 7 rfl rfl 1 (by decide) mw_1_76 rfl rfl dX4_imagesOf_16 ?_
  refine g_icmp_ge C 67 dX4_imagesOf_19 (by decide) (fun c3 => ?_) (fun c3 => ?_)
  · replace h := it_t c3 h
    obtain ⟨r4, h, hy⟩ := ex_of h
    rw [hx1 r4 hy] at h
    refine g_iload C dX4_imagesOf_67 4 rfl ?_
    obtain rfl := Option.some.inj h
    subst hQ
    exact g_iret C rfl hr hlk dX4_imagesOf_69 [0, 1, 2, 3, 4, 5, 6, 7, 8] rfl (by decide)
  · replace h := it_f c3 h
    refine g_aload_n C dX4_imagesOf_22 rfl 0 rfl ?_
    refine g_get C 4 18 gin4 0 rfl rfl 2 (by decide) mw_1_165 rfl rfl dX4_imagesOf_23 ?_
    refine g_iload_n C dX4_imagesOf_26 rfl 1 rfl ?_
    refine g_iload_n C dX4_imagesOf_27 rfl 3 rfl ?_
    refine g_iconst C 1 dX4_imagesOf_28 (by decide) ?_
    refine g_iload C dX4_imagesOf_29 5 rfl ?_
    refine g_ishl C dX4_imagesOf_31 ?_
    refine g_iand C dX4_imagesOf_32 ?_
    obtain ⟨hi5, h⟩ := ck_of h
    refine g_iast C 3 rfl hi5 [(a0, .inr (4, [.ref a0_image, .ref a0_order, .ref a0_allowed, .ref a0_signatures, .ref a0_targetSignatures, .ref a0_traces, .ref a0_targetTraces, .ref a0_tally])), (a0_image, .inl (zI Z, 8, .inl v2.2.2.1)), (a0_order, .inl (zI Z, 8, .inl (q4_order o0))), (a0_allowed, .inl (zI Z, 8, .inl (upd v2.2.2.2.1 (ix p1) (((q4_allowed o0) (ix p1)) &&& (jshl 1 v2.2.1))))), (a0_traces, .inl (zI Z, 10, .inl v2.2.2.2.2.1)), (a0_targetTraces, .inl (zI Z, 10, .inl v2.2.2.2.2.2.1)), (a0_tally, .inl (zI Z, 256, .inl v2.2.2.2.2.2.2)), (a2, .inr (2, [.ref a2_sets, .int (q2_points o2), .int (q2_facets o2)])), (a2_sets, .inl (zI Z, 10, .inl (q2_sets o2)))] rfl dX4_imagesOf_33 ?_
    refine g_aload_n C dX4_imagesOf_34 rfl 0 rfl ?_
    refine g_get C 4 18 gin4 0 rfl rfl 2 (by decide) mw_1_165 rfl rfl dX4_imagesOf_35 ?_
    refine g_iload_n C dX4_imagesOf_38 rfl 1 rfl ?_
    obtain ⟨hi6, h⟩ := ck_of h
    refine g_iald C 3 rfl hi6 dX4_imagesOf_39 ?_
    refine g_if_eq C 61 dX4_imagesOf_40 (by decide) (fun c7 => ?_) (fun c7 => ?_)
    · replace h := it_t c7 h
      refine g_iinc C (v2.2.1 + 1) dX4_imagesOf_61 5 rfl rfl (by decide) [(5, .int (v2.2.1 + 1)), (0, .ref a0), (1, .int p1), (2, .ref a2), (3, .int ((q4_allowed o0) (ix p1))), (4, .int v2.1)] rfl ?_
      refine g_goto C 13 dX4_imagesOf_64 (by decide) ?_
      refine g_lv [1, 2, 3, 4, 5, 0] [(0, .ref a0), (1, .int p1), (2, .ref a2), (3, .int ((q4_allowed o0) (ix p1))), (4, .int v2.1), (5, .int (v2.2.1 + 1))] rfl ?_
      exact hk1 (v2.1, (v2.2.1 + 1), v2.2.2.1, (upd v2.2.2.2.1 (ix p1) (((q4_allowed o0) (ix p1)) &&& (jshl 1 v2.2.1))), v2.2.2.2.2.1, v2.2.2.2.2.2.1, v2.2.2.2.2.2.2) (Option.some.inj h).symm
    · replace h := it_f c7 h
      refine g_aload_n C dX4_imagesOf_43 rfl 0 rfl ?_
      refine g_aload_n C dX4_imagesOf_44 rfl 2 rfl ?_
      refine g_aload_n C dX4_imagesOf_45 rfl 2 rfl ?_
      obtain ⟨r8, hr9, h⟩ := bd_of h
      refine g_callVi C (kX4_search_s21 l Z a0 a0_image a0_order a0_allowed a0_signatures a0_targetSignatures a0_traces a0_targetTraces a0_tally a2 a2_sets (s4_tally (s4_targetTraces (s4_traces (s4_allowed (s4_image o0 v2.2.2.1) (upd v2.2.2.2.1 (ix p1) (((q4_allowed o0) (ix p1)) &&& (jshl 1 v2.2.1)))) v2.2.2.2.2.1) v2.2.2.2.2.2.1) v2.2.2.2.2.2.2) o2 o2 r8 hr9) 0 rfl (ci := 4) rfl rfl myX4_search 51 mw_3_48 rfl [0, 1, 2, 3, 4, 5, 6, 7, 8] [] [0, 1, 2, 3, 4, 5, 6, 7, 8] (wr := []) rfl rfl (by decide) (by decide) (by decide) [(a0, .inr (4, [.ref a0_image, .ref a0_order, .ref a0_allowed, .ref a0_signatures, .ref a0_targetSignatures, .ref a0_traces, .ref a0_targetTraces, .ref a0_tally])), (a0_image, .inl (zI Z, 8, .inl (q4_image r8.2))), (a0_order, .inl (zI Z, 8, .inl (q4_order o0))), (a0_allowed, .inl (zI Z, 8, .inl (upd v2.2.2.2.1 (ix p1) (((q4_allowed o0) (ix p1)) &&& (jshl 1 v2.2.1))))), (a0_traces, .inl (zI Z, 10, .inl (q4_traces r8.2))), (a0_targetTraces, .inl (zI Z, 10, .inl (q4_targetTraces r8.2))), (a0_tally, .inl (zI Z, 256, .inl (q4_tally r8.2))), (a2, .inr (2, [.ref a2_sets, .int (q2_points o2), .int (q2_facets o2)])), (a2_sets, .inl (zI Z, 10, .inl (q2_sets o2)))] rfl (by decide) (Nat.le_of_ble_eq_true rfl) (by rw [hR]; exact Nat.le_of_ble_eq_true rfl) (by rw [hR]; exact Nat.le_of_ble_eq_true rfl) ⟨by rw [hR]; exact Nat.le_of_ble_eq_true rfl, by rw [hR]; exact Nat.le_of_ble_eq_true rfl⟩ rfl dX4_imagesOf_46 ?_
      refine g_if_eq C 61 dX4_imagesOf_49 (by decide) (fun c10 => ?_) (fun c10 => ?_)
      · replace h := it_t c10 h
        refine g_iinc C (v2.2.1 + 1) dX4_imagesOf_61 5 rfl rfl (by decide) [(5, .int (v2.2.1 + 1)), (0, .ref a0), (1, .int p1), (2, .ref a2), (3, .int ((q4_allowed o0) (ix p1))), (4, .int v2.1)] rfl ?_
        refine g_goto C 13 dX4_imagesOf_64 (by decide) ?_
        refine g_lv [1, 2, 3, 4, 5, 0] [(0, .ref a0), (1, .int p1), (2, .ref a2), (3, .int ((q4_allowed o0) (ix p1))), (4, .int v2.1), (5, .int (v2.2.1 + 1))] rfl ?_
        exact hk1 (v2.1, (v2.2.1 + 1), (q4_image r8.2), (upd v2.2.2.2.1 (ix p1) (((q4_allowed o0) (ix p1)) &&& (jshl 1 v2.2.1))), (q4_traces r8.2), (q4_targetTraces r8.2), (q4_tally r8.2)) (Option.some.inj h).symm
      · replace h := it_f c10 h
        refine g_iload C dX4_imagesOf_52 4 rfl ?_
        refine g_iconst C 1 dX4_imagesOf_54 (by decide) ?_
        refine g_iload C dX4_imagesOf_55 5 rfl ?_
        refine g_ishl C dX4_imagesOf_57 ?_
        refine g_ior C dX4_imagesOf_58 ?_
        refine g_istore C dX4_imagesOf_59 (by decide) [(4, .int (v2.1 ||| (jshl 1 v2.2.1))), (0, .ref a0), (1, .int p1), (2, .ref a2), (3, .int ((q4_allowed o0) (ix p1))), (5, .int v2.2.1)] rfl ?_
        refine g_iinc C (v2.2.1 + 1) dX4_imagesOf_61 5 rfl rfl (by decide) [(5, .int (v2.2.1 + 1)), (4, .int (v2.1 ||| (jshl 1 v2.2.1))), (0, .ref a0), (1, .int p1), (2, .ref a2), (3, .int ((q4_allowed o0) (ix p1)))] rfl ?_
        refine g_goto C 13 dX4_imagesOf_64 (by decide) ?_
        refine g_lv [2, 3, 4, 5, 1, 0] [(0, .ref a0), (1, .int p1), (2, .ref a2), (3, .int ((q4_allowed o0) (ix p1))), (4, .int (v2.1 ||| (jshl 1 v2.2.1))), (5, .int (v2.2.1 + 1))] rfl ?_
        exact hk1 ((v2.1 ||| (jshl 1 v2.2.1)), (v2.2.1 + 1), (q4_image r8.2), (upd v2.2.2.2.1 (ix p1) (((q4_allowed o0) (ix p1)) &&& (jshl 1 v2.2.1))), (q4_traces r8.2), (q4_targetTraces r8.2), (q4_tally r8.2)) (Option.some.inj h).symm
def fX4_countOnto_L11 (o0 : OX4) (o1 : OX2) (r1 : OX4) (v3 : Int32 × Int32 × (Nat → Int32) × (Nat → Int32) × (Nat → Int32) × (Nat → Int32) × (Nat → Int32)) : Option ((Int32 × Int32 × (Nat → Int32) × (Nat → Int32) × (Nat → Int32) × (Nat → Int32) × (Nat → Int32)) ⊕ (Int32 × OX4)) :=
  if (q2_points o1) ≤ v3.2.1 then (ex (some (v3.1, (s4_tally (s4_targetTraces (s4_traces (s4_targetSignatures (s4_signatures (s4_allowed (s4_order (s4_image o0 v3.2.2.1) (q4_order r1)) v3.2.2.2.1) (q4_signatures r1)) (q4_targetSignatures r1)) v3.2.2.2.2.1) v3.2.2.2.2.2.1) v3.2.2.2.2.2.2))))
  else ((fX4_imagesOf (s4_tally (s4_targetTraces (s4_traces (s4_targetSignatures (s4_signatures (s4_allowed (s4_order (s4_image o0 v3.2.2.1) (q4_order r1)) v3.2.2.2.1) (q4_signatures r1)) (q4_targetSignatures r1)) v3.2.2.2.2.1) v3.2.2.2.2.2.1) v3.2.2.2.2.2.2) v3.2.1 o1).bind fun r6 =>
  ((fJ6_bitCount_0f7a4 r6.1).bind fun r8 =>
  (ck (okI v3.2.1 8) (some (.inl ((v3.1 * r8), (v3.2.1 + 1), (q4_image r6.2), (upd (q4_allowed r6.2) (ix v3.2.1) (jshl 1 v3.2.1)), (q4_traces r6.2), (q4_targetTraces r6.2), (q4_tally r6.2)))))))
def fX4_countOnto (o0 : OX4) (o1 : OX2) : Option (Int32 × OX4) :=
  (fX4_begin o0 o1 o1 0).bind fun r1 =>
  (lp (fX4_countOnto_L11 o0 o1 r1) lpN (1, 0, (q4_image o0), (q4_allowed r1), (q4_traces o0), (q4_targetTraces o0), (q4_tally o0)))
theorem myX4_countOnto : MYv yX4_countOnto cX4_countOnto 4 (some .int) 1 := ⟨mw_3_26, mw_3_27, mw_3_28, mw_1_7, ⟨by decide +kernel, by decide +kernel⟩, by decide +kernel⟩
set_option maxRecDepth 100000 in
set_option maxHeartbeats 4000000 in
theorem kX4_countOnto (l : Launch) (Z : GZ) (a0 a0_image a0_order a0_allowed a0_signatures a0_targetSignatures a0_traces a0_targetTraces a0_tally a1 a1_sets : Nat) (o0 : OX4) (o1 : OX2) (res : Int32 × OX4) (h : fX4_countOnto o0 o1 = some res) : MI l Z yX4_countOnto cX4_countOnto 4 .int 25 630 [.ref a0, .ref a1] [(a0, .inr (4, [.ref a0_image, .ref a0_order, .ref a0_allowed, .ref a0_signatures, .ref a0_targetSignatures, .ref a0_traces, .ref a0_targetTraces, .ref a0_tally])), (a0_image, .inl (zI Z, 8, .inl (q4_image o0))), (a0_order, .inl (zI Z, 8, .inl (q4_order o0))), (a0_allowed, .inl (zI Z, 8, .inl (q4_allowed o0))), (a0_signatures, .inl (zJ Z, 8, .inr (.inl (q4_signatures o0)))), (a0_targetSignatures, .inl (zJ Z, 8, .inr (.inl (q4_targetSignatures o0)))), (a0_traces, .inl (zI Z, 10, .inl (q4_traces o0))), (a0_targetTraces, .inl (zI Z, 10, .inl (q4_targetTraces o0))), (a0_tally, .inl (zI Z, 256, .inl (q4_tally o0))), (a1, .inr (2, [.ref a1_sets, .int (q2_points o1), .int (q2_facets o1)])), (a1_sets, .inl (zI Z, 10, .inl (q2_sets o1)))] res.1 [(a0, .inr (4, [.ref a0_image, .ref a0_order, .ref a0_allowed, .ref a0_signatures, .ref a0_targetSignatures, .ref a0_traces, .ref a0_targetTraces, .ref a0_tally])), (a0_image, .inl (zI Z, 8, .inl (q4_image res.2))), (a0_order, .inl (zI Z, 8, .inl (q4_order res.2))), (a0_allowed, .inl (zI Z, 8, .inl (q4_allowed res.2))), (a0_signatures, .inl (zJ Z, 8, .inr (.inl (q4_signatures res.2)))), (a0_targetSignatures, .inl (zJ Z, 8, .inr (.inl (q4_targetSignatures res.2)))), (a0_traces, .inl (zI Z, 10, .inl (q4_traces res.2))), (a0_targetTraces, .inl (zI Z, 10, .inl (q4_targetTraces res.2))), (a0_tally, .inl (zI Z, 256, .inl (q4_tally res.2))), (a1, .inr (2, [.ref a1_sets, .int (q2_points o1), .int (q2_facets o1)])), (a1_sets, .inl (zI Z, 10, .inl (q2_sets o1)))] := by
  refine MI_of (by decide +kernel) (Nat.le_of_ble_eq_true rfl) (fun {p e s m args below meth c} A R hR Q hQ C hr hlk => ?_)
  unfold fX4_countOnto at h
  refine g_lv [0, 1] [(0, .ref a0), (1, .ref a1)] rfl ?_
  refine g_aload_n C dX4_countOnto_0 rfl 0 rfl ?_
  refine g_aload_n C dX4_countOnto_1 rfl 1 rfl ?_
  refine g_aload_n C dX4_countOnto_2 rfl 1 rfl ?_
  refine g_iconst C 0 dX4_countOnto_3 (by decide) ?_
  obtain ⟨r1, hr2, h⟩ := bd_of h
  refine g_callVv C (kX4_begin_s21 l Z a0 a0_image a0_order a0_allowed a0_signatures a0_targetSignatures a0_traces a0_targetTraces a0_tally a1 a1_sets o0 o1 o1 0 r1 hr2) 0 rfl (ci := 4) rfl rfl myX4_begin 37 mw_3_29 rfl [0, 2, 3, 4, 5, 9, 10] [1, 6, 7, 8] [4, 0, 5, 6, 7, 8, 1, 2, 3, 9, 10] (wr := [(a0_image, .inl (zI Z, 8, .inl (q4_image o0))), (a0_traces, .inl (zI Z, 10, .inl (q4_traces o0))), (a0_targetTraces, .inl (zI Z, 10, .inl (q4_targetTraces o0))), (a0_tally, .inl (zI Z, 256, .inl (q4_tally o0)))]) rfl rfl (by decide) (by decide) (by decide) [(a0, .inr (4, [.ref a0_image, .ref a0_order, .ref a0_allowed, .ref a0_signatures, .ref a0_targetSignatures, .ref a0_traces, .ref a0_targetTraces, .ref a0_tally])), (a0_image, .inl (zI Z, 8, .inl (q4_image o0))), (a0_order, .inl (zI Z, 8, .inl (q4_order r1))), (a0_allowed, .inl (zI Z, 8, .inl (q4_allowed r1))), (a0_signatures, .inl (zJ Z, 8, .inr (.inl (q4_signatures r1)))), (a0_targetSignatures, .inl (zJ Z, 8, .inr (.inl (q4_targetSignatures r1)))), (a0_traces, .inl (zI Z, 10, .inl (q4_traces o0))), (a0_targetTraces, .inl (zI Z, 10, .inl (q4_targetTraces o0))), (a0_tally, .inl (zI Z, 256, .inl (q4_tally o0))), (a1, .inr (2, [.ref a1_sets, .int (q2_points o1), .int (q2_facets o1)])), (a1_sets, .inl (zI Z, 10, .inl (q2_sets o1)))] rfl (by decide) (Nat.le_of_ble_eq_true rfl) (by rw [hR]; exact Nat.le_of_ble_eq_true rfl) (by rw [hR]; exact Nat.le_of_ble_eq_true rfl) ⟨by rw [hR]; exact Nat.le_of_ble_eq_true rfl, by rw [hR]; exact Nat.le_of_ble_eq_true rfl⟩ rfl dX4_countOnto_4 ?_
  refine g_iconst C 1 dX4_countOnto_7 (by decide) ?_
  refine g_istore_n C dX4_countOnto_8 rfl (by decide) [(2, .int 1), (0, .ref a0), (1, .ref a1)] rfl ?_
  refine g_iconst C 0 dX4_countOnto_9 (by decide) ?_
  refine g_istore_n C dX4_countOnto_10 rfl (by decide) [(3, .int 0), (2, .int 1), (0, .ref a0), (1, .ref a1)] rfl ?_
  refine g_lv [2, 3, 1, 0] [(0, .ref a0), (1, .ref a1), (2, .int 1), (3, .int 0)] rfl ?_
  refine g_loop (lvf := fun v3 => [(0, .ref a0), (1, .ref a1), (2, .int v3.1), (3, .int v3.2.1)]) (wsf := fun v3 => [(a0, .inr (4, [.ref a0_image, .ref a0_order, .ref a0_allowed, .ref a0_signatures, .ref a0_targetSignatures, .ref a0_traces, .ref a0_targetTraces, .ref a0_tally])), (a0_image, .inl (zI Z, 8, .inl v3.2.2.1)), (a0_order, .inl (zI Z, 8, .inl (q4_order r1))), (a0_allowed, .inl (zI Z, 8, .inl v3.2.2.2.1)), (a0_signatures, .inl (zJ Z, 8, .inr (.inl (q4_signatures r1)))), (a0_targetSignatures, .inl (zJ Z, 8, .inr (.inl (q4_targetSignatures r1)))), (a0_traces, .inl (zI Z, 10, .inl v3.2.2.2.2.1)), (a0_targetTraces, .inl (zI Z, 10, .inl v3.2.2.2.2.2.1)), (a0_tally, .inl (zI Z, 256, .inl v3.2.2.2.2.2.2)), (a1, .inr (2, [.ref a1_sets, .int (q2_points o1), .int (q2_facets o1)])), (a1_sets, .inl (zI Z, 10, .inl (q2_sets o1)))]) h (fun v3 y1 h hk1 hx1 => ?_)
  refine g_eq (lv1 := [(0, .ref a0), (1, .ref a1), (2, .int v3.1), (3, .int v3.2.1)]) (st1 := []) (ws1 := [(a0, .inr (4, [.ref a0_image, .ref a0_order, .ref a0_allowed, .ref a0_signatures, .ref a0_targetSignatures, .ref a0_traces, .ref a0_targetTraces, .ref a0_tally])), (a0_image, .inl (zI Z, 8, .inl v3.2.2.1)), (a0_order, .inl (zI Z, 8, .inl (q4_order r1))), (a0_allowed, .inl (zI Z, 8, .inl v3.2.2.2.1)), (a0_signatures, .inl (zJ Z, 8, .inr (.inl (q4_signatures r1)))), (a0_targetSignatures, .inl (zJ Z, 8, .inr (.inl (q4_targetSignatures r1)))), (a0_traces, .inl (zI Z, 10, .inl v3.2.2.2.2.1)), (a0_targetTraces, .inl (zI Z, 10, .inl v3.2.2.2.2.2.1)), (a0_tally, .inl (zI Z, 256, .inl v3.2.2.2.2.2.2)), (a1, .inr (2, [.ref a1_sets, .int (q2_points o1), .int (q2_facets o1)])), (a1_sets, .inl (zI Z, 10, .inl (q2_sets o1)))]) rfl rfl rfl rfl ?_
  unfold fX4_countOnto_L11 at h
  refine g_iload_n C dX4_countOnto_11 rfl 3 rfl ?_
  refine g_aload_n C dX4_countOnto_12 rfl 1 rfl ?_
  refine g_get C 2 41 gin2 9 rfl rfl 1 (by decide) mw_1_76 rfl rfl dX4_countOnto_13 ?_
  refine g_icmp_ge C 46 dX4_countOnto_16 (by decide) (fun c4 => ?_) (fun c4 => ?_)
  · replace h := it_t c4 h
    obtain ⟨r5, h, hy⟩ := ex_of h
    rw [hx1 r5 hy] at h
    refine g_iload_n C dX4_countOnto_46 rfl 2 rfl ?_
    obtain rfl := Option.some.inj h
    subst hQ
    exact g_iret C rfl hr hlk dX4_countOnto_47 [0, 1, 2, 3, 4, 5, 6, 7, 8, 9, 10] rfl (by decide)
  · replace h := it_f c4 h
    refine g_iload_n C dX4_countOnto_19 rfl 2 rfl ?_
    refine g_aload_n C dX4_countOnto_20 rfl 0 rfl ?_
    refine g_iload_n C dX4_countOnto_21 rfl 3 rfl ?_
    refine g_aload_n C dX4_countOnto_22 rfl 1 rfl ?_
    obtain ⟨r6, hr7, h⟩ := bd_of h
    refine g_callVi C (kX4_imagesOf l Z a0 a0_image a0_order a0_allowed a0_signatures a0_targetSignatures a0_traces a0_targetTraces a0_tally a1 a1_sets (s4_tally (s4_targetTraces (s4_traces (s4_targetSignatures (s4_signatures (s4_allowed (s4_order (s4_image o0 v3.2.2.1) (q4_order r1)) v3.2.2.2.1) (q4_signatures r1)) (q4_targetSignatures r1)) v3.2.2.2.2.1) v3.2.2.2.2.2.1) v3.2.2.2.2.2.2) v3.2.1 o1 r6 hr7) 0 rfl (ci := 4) rfl rfl myX4_imagesOf 55 mw_3_44 rfl [0, 1, 2, 3, 6, 7, 8, 9, 10] [4, 5] [2, 3, 4, 5, 0, 1, 6, 7, 8, 9, 10] (wr := [(a0_signatures, .inl (zJ Z, 8, .inr (.inl (q4_signatures r1)))), (a0_targetSignatures, .inl (zJ Z, 8, .inr (.inl (q4_targetSignatures r1))))]) rfl rfl (by decide) (by decide) (by decide) [(a0, .inr (4, [.ref a0_image, .ref a0_order, .ref a0_allowed, .ref a0_signatures, .ref a0_targetSignatures, .ref a0_traces, .ref a0_targetTraces, .ref a0_tally])), (a0_image, .inl (zI Z, 8, .inl (q4_image r6.2))), (a0_order, .inl (zI Z, 8, .inl (q4_order r1))), (a0_allowed, .inl (zI Z, 8, .inl (q4_allowed r6.2))), (a0_signatures, .inl (zJ Z, 8, .inr (.inl (q4_signatures r1)))), (a0_targetSignatures, .inl (zJ Z, 8, .inr (.inl (q4_targetSignatures r1)))), (a0_traces, .inl (zI Z, 10, .inl (q4_traces r6.2))), (a0_targetTraces, .inl (zI Z, 10, .inl (q4_targetTraces r6.2))), (a0_tally, .inl (zI Z, 256, .inl (q4_tally r6.2))), (a1, .inr (2, [.ref a1_sets, .int (q2_points o1), .int (q2_facets o1)])), (a1_sets, .inl (zI Z, 10, .inl (q2_sets o1)))] rfl (by decide) (Nat.le_of_ble_eq_true rfl) (by rw [hR]; exact Nat.le_of_ble_eq_true rfl) (by rw [hR]; exact Nat.le_of_ble_eq_true rfl) ⟨by rw [hR]; exact Nat.le_of_ble_eq_true rfl, by rw [hR]; exact Nat.le_of_ble_eq_true rfl⟩ rfl dX4_countOnto_23 ?_
    obtain ⟨r8, hr9, h⟩ := bd_of h
    refine g_callSi C (kJ6_bitCount_0f7a4 l Z r6.1 r8 hr9) myJ6_bitCount_0f7a4 59 mw_3_40 rfl [] [0, 1, 2, 3, 4, 5, 6, 7, 8, 9, 10] [0, 1, 2, 3, 4, 5, 6, 7, 8, 9, 10] (wr := [(a0, .inr (4, [.ref a0_image, .ref a0_order, .ref a0_allowed, .ref a0_signatures, .ref a0_targetSignatures, .ref a0_traces, .ref a0_targetTraces, .ref a0_tally])), (a0_image, .inl (zI Z, 8, .inl (q4_image r6.2))), (a0_order, .inl (zI Z, 8, .inl (q4_order r1))), (a0_allowed, .inl (zI Z, 8, .inl (q4_allowed r6.2))), (a0_signatures, .inl (zJ Z, 8, .inr (.inl (q4_signatures r1)))), (a0_targetSignatures, .inl (zJ Z, 8, .inr (.inl (q4_targetSignatures r1)))), (a0_traces, .inl (zI Z, 10, .inl (q4_traces r6.2))), (a0_targetTraces, .inl (zI Z, 10, .inl (q4_targetTraces r6.2))), (a0_tally, .inl (zI Z, 256, .inl (q4_tally r6.2))), (a1, .inr (2, [.ref a1_sets, .int (q2_points o1), .int (q2_facets o1)])), (a1_sets, .inl (zI Z, 10, .inl (q2_sets o1)))]) rfl rfl (by decide) (by decide) (by decide) [(a0, .inr (4, [.ref a0_image, .ref a0_order, .ref a0_allowed, .ref a0_signatures, .ref a0_targetSignatures, .ref a0_traces, .ref a0_targetTraces, .ref a0_tally])), (a0_image, .inl (zI Z, 8, .inl (q4_image r6.2))), (a0_order, .inl (zI Z, 8, .inl (q4_order r1))), (a0_allowed, .inl (zI Z, 8, .inl (q4_allowed r6.2))), (a0_signatures, .inl (zJ Z, 8, .inr (.inl (q4_signatures r1)))), (a0_targetSignatures, .inl (zJ Z, 8, .inr (.inl (q4_targetSignatures r1)))), (a0_traces, .inl (zI Z, 10, .inl (q4_traces r6.2))), (a0_targetTraces, .inl (zI Z, 10, .inl (q4_targetTraces r6.2))), (a0_tally, .inl (zI Z, 256, .inl (q4_tally r6.2))), (a1, .inr (2, [.ref a1_sets, .int (q2_points o1), .int (q2_facets o1)])), (a1_sets, .inl (zI Z, 10, .inl (q2_sets o1)))] rfl (by decide) (Nat.le_of_ble_eq_true rfl) (by rw [hR]; exact Nat.le_of_ble_eq_true rfl) (by rw [hR]; exact Nat.le_of_ble_eq_true rfl) ⟨by rw [hR]; exact Nat.le_of_ble_eq_true rfl, by rw [hR]; exact Nat.le_of_ble_eq_true rfl⟩ rfl dX4_countOnto_26 ?_
    refine g_imul C dX4_countOnto_29 ?_
    refine g_istore_n C dX4_countOnto_30 rfl (by decide) [(2, .int (v3.1 * r8)), (0, .ref a0), (1, .ref a1), (3, .int v3.2.1)] rfl ?_
    refine g_aload_n C dX4_countOnto_31 rfl 1 rfl ?_
    refine g_get C 4 18 gin4 0 rfl rfl 2 (by decide) mw_1_165 rfl rfl dX4_countOnto_32 ?_
    refine g_iload_n C dX4_countOnto_35 rfl 3 rfl ?_
    refine g_iconst C 1 dX4_countOnto_36 (by decide) ?_
    refine g_iload_n C dX4_countOnto_37 rfl 3 rfl ?_
    refine g_ishl C dX4_countOnto_38 ?_
    obtain ⟨hi10, h⟩ := ck_of h
    refine g_iast C 3 rfl hi10 [(a0, .inr (4, [.ref a0_image, .ref a0_order, .ref a0_allowed, .ref a0_signatures, .ref a0_targetSignatures, .ref a0_traces, .ref a0_targetTraces, .ref a0_tally])), (a0_image, .inl (zI Z, 8, .inl (q4_image r6.2))), (a0_order, .inl (zI Z, 8, .inl (q4_order r1))), (a0_allowed, .inl (zI Z, 8, .inl (upd (q4_allowed r6.2) (ix v3.2.1) (jshl 1 v3.2.1)))), (a0_signatures, .inl (zJ Z, 8, .inr (.inl (q4_signatures r1)))), (a0_targetSignatures, .inl (zJ Z, 8, .inr (.inl (q4_targetSignatures r1)))), (a0_traces, .inl (zI Z, 10, .inl (q4_traces r6.2))), (a0_targetTraces, .inl (zI Z, 10, .inl (q4_targetTraces r6.2))), (a0_tally, .inl (zI Z, 256, .inl (q4_tally r6.2))), (a1, .inr (2, [.ref a1_sets, .int (q2_points o1), .int (q2_facets o1)])), (a1_sets, .inl (zI Z, 10, .inl (q2_sets o1)))] rfl dX4_countOnto_39 ?_
    refine g_iinc C (v3.2.1 + 1) dX4_countOnto_40 3 rfl rfl (by decide) [(3, .int (v3.2.1 + 1)), (2, .int (v3.1 * r8)), (0, .ref a0), (1, .ref a1)] rfl ?_
    refine g_goto C 11 dX4_countOnto_43 (by decide) ?_
    refine g_lv [2, 3, 1, 0] [(0, .ref a0), (1, .ref a1), (2, .int (v3.1 * r8)), (3, .int (v3.2.1 + 1))] rfl ?_
    exact hk1 ((v3.1 * r8), (v3.2.1 + 1), (q4_image r6.2), (upd (q4_allowed r6.2) (ix v3.2.1) (jshl 1 v3.2.1)), (q4_traces r6.2), (q4_targetTraces r6.2), (q4_tally r6.2)) (Option.some.inj h).symm
def fX4_imagesOnto (o0 : OX4) (o1 : OX2) (p2 : Int32) : Option (Int32 × OX4) :=
  (fX4_begin o0 o1 o1 p2).bind fun r1 =>
  ((fX4_imagesOf (s4_targetSignatures (s4_signatures (s4_allowed (s4_order o0 (q4_order r1)) (q4_allowed r1)) (q4_signatures r1)) (q4_targetSignatures r1)) p2 o1).bind fun r3 =>
  (some (r3.1, (s4_tally (s4_targetTraces (s4_traces (s4_targetSignatures (s4_signatures (s4_allowed (s4_order (s4_image o0 (q4_image r3.2)) (q4_order r1)) (q4_allowed r3.2)) (q4_signatures r1)) (q4_targetSignatures r1)) (q4_traces r3.2)) (q4_targetTraces r3.2)) (q4_tally r3.2)))))
theorem myX4_imagesOnto : MYv yX4_imagesOnto cX4_imagesOnto 3 (some .int) 2 := ⟨mw_5_54, mw_5_55, mw_5_56, mw_1_7, ⟨by decide +kernel, by decide +kernel⟩, by decide +kernel⟩
set_option maxRecDepth 100000 in
set_option maxHeartbeats 4000000 in
theorem kX4_imagesOnto (l : Launch) (Z : GZ) (a0 a0_image a0_order a0_allowed a0_signatures a0_targetSignatures a0_traces a0_targetTraces a0_tally a1 a1_sets : Nat) (o0 : OX4) (o1 : OX2) (p2 : Int32) (res : Int32 × OX4) (h : fX4_imagesOnto o0 o1 p2 = some res) : MI l Z yX4_imagesOnto cX4_imagesOnto 3 .int 25 630 [.ref a0, .ref a1, .int p2] [(a0, .inr (4, [.ref a0_image, .ref a0_order, .ref a0_allowed, .ref a0_signatures, .ref a0_targetSignatures, .ref a0_traces, .ref a0_targetTraces, .ref a0_tally])), (a0_image, .inl (zI Z, 8, .inl (q4_image o0))), (a0_order, .inl (zI Z, 8, .inl (q4_order o0))), (a0_allowed, .inl (zI Z, 8, .inl (q4_allowed o0))), (a0_signatures, .inl (zJ Z, 8, .inr (.inl (q4_signatures o0)))), (a0_targetSignatures, .inl (zJ Z, 8, .inr (.inl (q4_targetSignatures o0)))), (a0_traces, .inl (zI Z, 10, .inl (q4_traces o0))), (a0_targetTraces, .inl (zI Z, 10, .inl (q4_targetTraces o0))), (a0_tally, .inl (zI Z, 256, .inl (q4_tally o0))), (a1, .inr (2, [.ref a1_sets, .int (q2_points o1), .int (q2_facets o1)])), (a1_sets, .inl (zI Z, 10, .inl (q2_sets o1)))] res.1 [(a0, .inr (4, [.ref a0_image, .ref a0_order, .ref a0_allowed, .ref a0_signatures, .ref a0_targetSignatures, .ref a0_traces, .ref a0_targetTraces, .ref a0_tally])), (a0_image, .inl (zI Z, 8, .inl (q4_image res.2))), (a0_order, .inl (zI Z, 8, .inl (q4_order res.2))), (a0_allowed, .inl (zI Z, 8, .inl (q4_allowed res.2))), (a0_signatures, .inl (zJ Z, 8, .inr (.inl (q4_signatures res.2)))), (a0_targetSignatures, .inl (zJ Z, 8, .inr (.inl (q4_targetSignatures res.2)))), (a0_traces, .inl (zI Z, 10, .inl (q4_traces res.2))), (a0_targetTraces, .inl (zI Z, 10, .inl (q4_targetTraces res.2))), (a0_tally, .inl (zI Z, 256, .inl (q4_tally res.2))), (a1, .inr (2, [.ref a1_sets, .int (q2_points o1), .int (q2_facets o1)])), (a1_sets, .inl (zI Z, 10, .inl (q2_sets o1)))] := by
  refine MI_of (by decide +kernel) (Nat.le_of_ble_eq_true rfl) (fun {p e s m args below meth c} A R hR Q hQ C hr hlk => ?_)
  unfold fX4_imagesOnto at h
  refine g_lv [0, 1, 2] [(0, .ref a0), (1, .ref a1), (2, .int p2)] rfl ?_
  refine g_aload_n C dX4_imagesOnto_0 rfl 0 rfl ?_
  refine g_aload_n C dX4_imagesOnto_1 rfl 1 rfl ?_
  refine g_aload_n C dX4_imagesOnto_2 rfl 1 rfl ?_
  refine g_iload_n C dX4_imagesOnto_3 rfl 2 rfl ?_
  obtain ⟨r1, hr2, h⟩ := bd_of h
  refine g_callVv C (kX4_begin_s21 l Z a0 a0_image a0_order a0_allowed a0_signatures a0_targetSignatures a0_traces a0_targetTraces a0_tally a1 a1_sets o0 o1 o1 p2 r1 hr2) 0 rfl (ci := 4) rfl rfl myX4_begin 37 mw_3_29 rfl [0, 2, 3, 4, 5, 9, 10] [1, 6, 7, 8] [4, 0, 5, 6, 7, 8, 1, 2, 3, 9, 10] (wr := [(a0_image, .inl (zI Z, 8, .inl (q4_image o0))), (a0_traces, .inl (zI Z, 10, .inl (q4_traces o0))), (a0_targetTraces, .inl (zI Z, 10, .inl (q4_targetTraces o0))), (a0_tally, .inl (zI Z, 256, .inl (q4_tally o0)))]) rfl rfl (by decide) (by decide) (by decide) [(a0, .inr (4, [.ref a0_image, .ref a0_order, .ref a0_allowed, .ref a0_signatures, .ref a0_targetSignatures, .ref a0_traces, .ref a0_targetTraces, .ref a0_tally])), (a0_image, .inl (zI Z, 8, .inl (q4_image o0))), (a0_order, .inl (zI Z, 8, .inl (q4_order r1))), (a0_allowed, .inl (zI Z, 8, .inl (q4_allowed r1))), (a0_signatures, .inl (zJ Z, 8, .inr (.inl (q4_signatures r1)))), (a0_targetSignatures, .inl (zJ Z, 8, .inr (.inl (q4_targetSignatures r1)))), (a0_traces, .inl (zI Z, 10, .inl (q4_traces o0))), (a0_targetTraces, .inl (zI Z, 10, .inl (q4_targetTraces o0))), (a0_tally, .inl (zI Z, 256, .inl (q4_tally o0))), (a1, .inr (2, [.ref a1_sets, .int (q2_points o1), .int (q2_facets o1)])), (a1_sets, .inl (zI Z, 10, .inl (q2_sets o1)))] rfl (by decide) (Nat.le_of_ble_eq_true rfl) (by rw [hR]; exact Nat.le_of_ble_eq_true rfl) (by rw [hR]; exact Nat.le_of_ble_eq_true rfl) ⟨by rw [hR]; exact Nat.le_of_ble_eq_true rfl, by rw [hR]; exact Nat.le_of_ble_eq_true rfl⟩ rfl dX4_imagesOnto_4 ?_
  refine g_aload_n C dX4_imagesOnto_7 rfl 0 rfl ?_
  refine g_iload_n C dX4_imagesOnto_8 rfl 2 rfl ?_
  refine g_aload_n C dX4_imagesOnto_9 rfl 1 rfl ?_
  obtain ⟨r3, hr4, h⟩ := bd_of h
  refine g_callVi C (kX4_imagesOf l Z a0 a0_image a0_order a0_allowed a0_signatures a0_targetSignatures a0_traces a0_targetTraces a0_tally a1 a1_sets (s4_targetSignatures (s4_signatures (s4_allowed (s4_order o0 (q4_order r1)) (q4_allowed r1)) (q4_signatures r1)) (q4_targetSignatures r1)) p2 o1 r3 hr4) 0 rfl (ci := 4) rfl rfl myX4_imagesOf 55 mw_3_44 rfl [0, 1, 2, 3, 6, 7, 8, 9, 10] [4, 5] [2, 3, 4, 5, 0, 1, 6, 7, 8, 9, 10] (wr := [(a0_signatures, .inl (zJ Z, 8, .inr (.inl (q4_signatures r1)))), (a0_targetSignatures, .inl (zJ Z, 8, .inr (.inl (q4_targetSignatures r1))))]) rfl rfl (by decide) (by decide) (by decide) [(a0, .inr (4, [.ref a0_image, .ref a0_order, .ref a0_allowed, .ref a0_signatures, .ref a0_targetSignatures, .ref a0_traces, .ref a0_targetTraces, .ref a0_tally])), (a0_image, .inl (zI Z, 8, .inl (q4_image r3.2))), (a0_order, .inl (zI Z, 8, .inl (q4_order r1))), (a0_allowed, .inl (zI Z, 8, .inl (q4_allowed r3.2))), (a0_signatures, .inl (zJ Z, 8, .inr (.inl (q4_signatures r1)))), (a0_targetSignatures, .inl (zJ Z, 8, .inr (.inl (q4_targetSignatures r1)))), (a0_traces, .inl (zI Z, 10, .inl (q4_traces r3.2))), (a0_targetTraces, .inl (zI Z, 10, .inl (q4_targetTraces r3.2))), (a0_tally, .inl (zI Z, 256, .inl (q4_tally r3.2))), (a1, .inr (2, [.ref a1_sets, .int (q2_points o1), .int (q2_facets o1)])), (a1_sets, .inl (zI Z, 10, .inl (q2_sets o1)))] rfl (by decide) (Nat.le_of_ble_eq_true rfl) (by rw [hR]; exact Nat.le_of_ble_eq_true rfl) (by rw [hR]; exact Nat.le_of_ble_eq_true rfl) ⟨by rw [hR]; exact Nat.le_of_ble_eq_true rfl, by rw [hR]; exact Nat.le_of_ble_eq_true rfl⟩ rfl dX4_imagesOnto_10 ?_
  obtain rfl := Option.some.inj h
  subst hQ
  exact g_iret C rfl hr hlk dX4_imagesOnto_13 [0, 1, 2, 3, 4, 5, 6, 7, 8, 9, 10] rfl (by decide)

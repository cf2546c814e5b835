def fJ6_bitCount_0f7a4 (p0 : Int32) : Option (Int32) :=
  some ((((((((p0 - ((jushr p0 1) &&& 1431655765)) &&& 858993459) + ((jushr (p0 - ((jushr p0 1) &&& 1431655765)) 2) &&& 858993459)) + (jushr (((p0 - ((jushr p0 1) &&& 1431655765)) &&& 858993459) + ((jushr (p0 - ((jushr p0 1) &&& 1431655765)) 2) &&& 858993459)) 4)) &&& 252645135) + (jushr (((((p0 - ((jushr p0 1) &&& 1431655765)) &&& 858993459) + ((jushr (p0 - ((jushr p0 1) &&& 1431655765)) 2) &&& 858993459)) + (jushr (((p0 - ((jushr p0 1) &&& 1431655765)) &&& 858993459) + ((jushr (p0 - ((jushr p0 1) &&& 1431655765)) 2) &&& 858993459)) 4)) &&& 252645135) 8)) + (jushr ((((((p0 - ((jushr p0 1) &&& 1431655765)) &&& 858993459) + ((jushr (p0 - ((jushr p0 1) &&& 1431655765)) 2) &&& 858993459)) + (jushr (((p0 - ((jushr p0 1) &&& 1431655765)) &&& 858993459) + ((jushr (p0 - ((jushr p0 1) &&& 1431655765)) 2) &&& 858993459)) 4)) &&& 252645135) + (jushr (((((p0 - ((jushr p0 1) &&& 1431655765)) &&& 858993459) + ((jushr (p0 - ((jushr p0 1) &&& 1431655765)) 2) &&& 858993459)) + (jushr (((p0 - ((jushr p0 1) &&& 1431655765)) &&& 858993459) + ((jushr (p0 - ((jushr p0 1) &&& 1431655765)) 2) &&& 858993459)) 4)) &&& 252645135) 8)) 16)) &&& 63)
theorem myJ6_bitCount_0f7a4 : MYs yJ6_bitCount_0f7a4 cJ6_bitCount_0f7a4 1 (some .int) 1 := ⟨mw_2_215, mw_2_216, mw_1_22, ⟨by decide +kernel, by decide +kernel⟩, by decide +kernel⟩
set_option maxRecDepth 100000 in
set_option maxHeartbeats 4000000 in
theorem kJ6_bitCount_0f7a4 (l : Launch) (Z : GZ) (p0 : Int32) (res : Int32) (h : fJ6_bitCount_0f7a4 p0 = some res) : MI l Z yJ6_bitCount_0f7a4 cJ6_bitCount_0f7a4 1 .int 0 0 [.int p0] [] res [] := by
  refine MI_of (by decide +kernel) (Nat.le_of_ble_eq_true rfl) (fun {p e s m args below meth c} A R hR Q hQ C hr hlk => ?_)
  unfold fJ6_bitCount_0f7a4 at h
  refine g_lv [0] [(0, .int p0)] rfl ?_
  refine g_iload_n C dJ6_bitCount_0f7a4_0 rfl 0 rfl ?_
  refine g_iload_n C dJ6_bitCount_0f7a4_1 rfl 0 rfl ?_
  refine g_iconst C 1 dJ6_bitCount_0f7a4_2 (by decide) ?_
  refine g_iushr C dJ6_bitCount_0f7a4_3 ?_
  refine g_ldc_w C 265 mw_2_217 dJ6_bitCount_0f7a4_4 ?_
  refine g_iand C dJ6_bitCount_0f7a4_7 ?_
  refine g_isub C dJ6_bitCount_0f7a4_8 ?_
  refine g_istore_n C dJ6_bitCount_0f7a4_9 rfl (by decide) [(0, .int (p0 - ((jushr p0 1) &&& 1431655765)))] rfl ?_
  refine g_iload_n C dJ6_bitCount_0f7a4_10 rfl 0 rfl ?_
  refine g_ldc_w C 266 mw_2_218 dJ6_bitCount_0f7a4_11 ?_
  refine g_iand C dJ6_bitCount_0f7a4_14 ?_
  refine g_iload_n C dJ6_bitCount_0f7a4_15 rfl 0 rfl ?_
  refine g_iconst C 2 dJ6_bitCount_0f7a4_16 (by decide) ?_
  refine g_iushr C dJ6_bitCount_0f7a4_17 ?_
  refine g_ldc_w C 266 mw_2_218 dJ6_bitCount_0f7a4_18 ?_
  refine g_iand C dJ6_bitCount_0f7a4_21 ?_
  refine g_iadd C dJ6_bitCount_0f7a4_22 ?_
  refine g_istore_n C dJ6_bitCount_0f7a4_23 rfl (by decide) [(0, .int (((p0 - ((jushr p0 1) &&& 1431655765)) &&& 858993459) + ((jushr (p0 - ((jushr p0 1) &&& 1431655765)) 2) &&& 858993459)))] rfl ?_
  refine g_iload_n C dJ6_bitCount_0f7a4_24 rfl 0 rfl ?_
  refine g_iload_n C dJ6_bitCount_0f7a4_25 rfl 0 rfl ?_
  refine g_iconst C 4 dJ6_bitCount_0f7a4_26 (by decide) ?_
  refine g_iushr C dJ6_bitCount_0f7a4_27 ?_
  refine g_iadd C dJ6_bitCount_0f7a4_28 ?_
  refine g_ldc_w C 267 mw_2_219 dJ6_bitCount_0f7a4_29 ?_
  refine g_iand C dJ6_bitCount_0f7a4_32 ?_
  refine g_istore_n C dJ6_bitCount_0f7a4_33 rfl (by decide) [(0, .int (((((p0 - ((jushr p0 1) &&& 1431655765)) &&& 858993459) + ((jushr (p0 - ((jushr p0 1) &&& 1431655765)) 2) &&& 858993459)) + (jushr (((p0 - ((jushr p0 1) &&& 1431655765)) &&& 858993459) + ((jushr (p0 - ((jushr p0 1) &&& 1431655765)) 2) &&& 858993459)) 4)) &&& 252645135))] rfl ?_
  refine g_iload_n C dJ6_bitCount_0f7a4_34 rfl 0 rfl ?_
  refine g_iload_n C dJ6_bitCount_0f7a4_35 rfl 0 rfl ?_
  refine g_bipush C 8 dJ6_bitCount_0f7a4_36 (by decide) ?_
  refine g_iushr C dJ6_bitCount_0f7a4_38 ?_
  refine g_iadd C dJ6_bitCount_0f7a4_39 ?_
  refine g_istore_n C dJ6_bitCount_0f7a4_40 rfl (by decide) [(0, .int ((((((p0 - ((jushr p0 1) &&& 1431655765)) &&& 858993459) + ((jushr (p0 - ((jushr p0 1) &&& 1431655765)) 2) &&& 858993459)) + (jushr (((p0 - ((jushr p0 1) &&& 1431655765)) &&& 858993459) + ((jushr (p0 - ((jushr p0 1) &&& 1431655765)) 2) &&& 858993459)) 4)) &&& 252645135) + (jushr (((((p0 - ((jushr p0 1) &&& 1431655765)) &&& 858993459) + ((jushr (p0 - ((jushr p0 1) &&& 1431655765)) 2) &&& 858993459)) + (jushr (((p0 - ((jushr p0 1) &&& 1431655765)) &&& 858993459) + ((jushr (p0 - ((jushr p0 1) &&& 1431655765)) 2) &&& 858993459)) 4)) &&& 252645135) 8)))] rfl ?_
  refine g_iload_n C dJ6_bitCount_0f7a4_41 rfl 0 rfl ?_
  refine g_iload_n C dJ6_bitCount_0f7a4_42 rfl 0 rfl ?_
  refine g_bipush C 16 dJ6_bitCount_0f7a4_43 (by decide) ?_
  refine g_iushr C dJ6_bitCount_0f7a4_45 ?_
  refine g_iadd C dJ6_bitCount_0f7a4_46 ?_
  refine g_istore_n C dJ6_bitCount_0f7a4_47 rfl (by decide) [(0, .int (((((((p0 - ((jushr p0 1) &&& 1431655765)) &&& 858993459) + ((jushr (p0 - ((jushr p0 1) &&& 1431655765)) 2) &&& 858993459)) + (jushr (((p0 - ((jushr p0 1) &&& 1431655765)) &&& 858993459) + ((jushr (p0 - ((jushr p0 1) &&& 1431655765)) 2) &&& 858993459)) 4)) &&& 252645135) + (jushr (((((p0 - ((jushr p0 1) &&& 1431655765)) &&& 858993459) + ((jushr (p0 - ((jushr p0 1) &&& 1431655765)) 2) &&& 858993459)) + (jushr (((p0 - ((jushr p0 1) &&& 1431655765)) &&& 858993459) + ((jushr (p0 - ((jushr p0 1) &&& 1431655765)) 2) &&& 858993459)) 4)) &&& 252645135) 8)) + (jushr ((((((p0 - ((jushr p0 1) &&& 1431655765)) &&& 858993459) + ((jushr (p0 - ((jushr p0 1) &&& 1431655765)) 2) &&& 858993459)) + (jushr (((p0 - ((jushr p0 1) &&& 1431655765)) &&& 858993459) + ((jushr (p0 - ((jushr p0 1) &&& 1431655765)) 2) &&& 858993459)) 4)) &&& 252645135) + (jushr (((((p0 - ((jushr p0 1) &&& 1431655765)) &&& 858993459) + ((jushr (p0 - ((jushr p0 1) &&& 1431655765)) 2) &&& 858993459)) + (jushr (((p0 - ((jushr p0 1) &&& 1431655765)) &&& 858993459) + ((jushr (p0 - ((jushr p0 1) &&& 1431655765)) 2) &&& 858993459)) 4)) &&& 252645135) 8)) 16)))] rfl ?_
  refine g_iload_n C dJ6_bitCount_0f7a4_48 rfl 0 rfl ?_
  refine g_bipush C 63 dJ6_bitCount_0f7a4_49 (by decide) ?_
  refine g_iand C dJ6_bitCount_0f7a4_51 ?_
  obtain rfl := Option.some.inj h
  subst hQ
  exact g_iret C rfl hr hlk dJ6_bitCount_0f7a4_52 [] rfl (by decide)
def fJ7_fill_53178_L5 (p1 : Int32) (v1 : Int32 × (Nat → Int32)) : Option ((Int32 × (Nat → Int32)) ⊕ ((Nat → Int32))) :=
  if 10 ≤ v1.1 then (ex (some v1.2))
  else (ck (okI v1.1 10) (some (.inl ((v1.1 + 1), (upd v1.2 (ix v1.1) p1)))))
def fJ7_fill_53178 (o0 : Nat → Int32) (p1 : Int32) : Option ((Nat → Int32)) :=
  lp (fJ7_fill_53178_L5 p1) lpN (0, o0)
theorem myJ7_fill_53178 : MYs yJ7_fill_53178 cJ7_fill_53178 4 none 2 := ⟨mw_4_60, mw_4_61, mw_1_21, ⟨by decide +kernel, by decide +kernel⟩, by decide +kernel⟩
set_option maxRecDepth 100000 in
set_option maxHeartbeats 4000000 in
theorem kJ7_fill_53178 (l : Launch) (Z : GZ) (a0 : Nat) (o0 : Nat → Int32) (p1 : Int32) (res : (Nat → Int32)) (h : fJ7_fill_53178 o0 p1 = some res) : MV l Z yJ7_fill_53178 cJ7_fill_53178 4 0 0 [.ref a0, .int p1] [(a0, .inl (zI Z, 10, .inl o0))] [(a0, .inl (zI Z, 10, .inl res))] := by
  refine MV_of (by decide +kernel) (Nat.le_of_ble_eq_true rfl) (fun {p e s m args below meth c} A R hR Q hQ C hr hlk => ?_)
  unfold fJ7_fill_53178 at h
  refine g_lv [0, 1] [(0, .ref a0), (1, .int p1)] rfl ?_
  refine g_iconst C 0 dJ7_fill_53178_0 (by decide) ?_
  refine g_istore_n C dJ7_fill_53178_1 rfl (by decide) [(2, .int 0), (0, .ref a0), (1, .int p1)] rfl ?_
  refine g_aload_n C dJ7_fill_53178_2 rfl 1 rfl ?_
  refine g_alen C 0 0 rfl rfl rfl dJ7_fill_53178_3 ?_
  refine g_istore_n C dJ7_fill_53178_4 rfl (by decide) [(3, .int 10), (2, .int 0), (0, .ref a0), (1, .int p1)] rfl ?_
  refine g_lv [2, 3, 1, 0] [(0, .ref a0), (1, .int p1), (2, .int 0), (3, .int 10)] rfl ?_
  refine g_loop (lvf := fun v1 => [(0, .ref a0), (1, .int p1), (2, .int v1.1), (3, .int 10)]) (wsf := fun v1 => [(a0, .inl (zI Z, 10, .inl v1.2))]) h (fun v1 y1 h hk1 hx1 => ?_)
  refine g_eq (lv1 := [(0, .ref a0), (1, .int p1), (2, .int v1.1), (3, .int 10)]) (st1 := []) (ws1 := [(a0, .inl (zI Z, 10, .inl v1.2))]) rfl rfl rfl rfl ?_
  unfold fJ7_fill_53178_L5 at h
  refine g_iload_n C dJ7_fill_53178_5 rfl 2 rfl ?_
  refine g_iload_n C dJ7_fill_53178_6 rfl 3 rfl ?_
  refine g_icmp_ge C 20 dJ7_fill_53178_7 (by decide) (fun c2 => ?_) (fun c2 => ?_)
  · replace h := it_t c2 h
    obtain ⟨r3, h, hy⟩ := ex_of h
    rw [hx1 r3 hy] at h
    obtain rfl := Option.some.inj h
    subst hQ
    exact g_vret C hr hlk dJ7_fill_53178_20 [0] rfl (by decide)
  · replace h := it_f c2 h
    refine g_aload_n C dJ7_fill_53178_10 rfl 0 rfl ?_
    refine g_iload_n C dJ7_fill_53178_11 rfl 2 rfl ?_
    refine g_iload_n C dJ7_fill_53178_12 rfl 1 rfl ?_
    obtain ⟨hi4, h⟩ := ck_of h
    refine g_iast C 0 rfl hi4 [(a0, .inl (zI Z, 10, .inl (upd v1.2 (ix v1.1) p1)))] rfl dJ7_fill_53178_13 ?_
    refine g_iinc C (v1.1 + 1) dJ7_fill_53178_14 2 rfl rfl (by decide) [(2, .int (v1.1 + 1)), (0, .ref a0), (1, .int p1), (3, .int 10)] rfl ?_
    refine g_goto C 5 dJ7_fill_53178_17 (by decide) ?_
    refine g_lv [1, 2, 0, 3] [(0, .ref a0), (1, .int p1), (2, .int (v1.1 + 1)), (3, .int 10)] rfl ?_
    exact hk1 ((v1.1 + 1), (upd v1.2 (ix v1.1) p1)) (Option.some.inj h).symm

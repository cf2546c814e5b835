def fX0_clear (o0 : OX0) (p1 : Int32) : Option (OX0) :=
  (fJ7_fill_53178 (q0_nextTo o0) 0).bind fun r1 =>
  (some (s0_size (s0_nextTo o0 r1) p1))
theorem myX0_clear : MYv yX0_clear cX0_clear 2 none 1 := ⟨mw_4_57, ms_26, mw_4_58, mw_1_6, ⟨by decide +kernel, by decide +kernel⟩, by decide +kernel⟩
set_option maxRecDepth 100000 in
set_option maxHeartbeats 4000000 in
theorem kX0_clear (l : Launch) (Z : GZ) (a0 a0_nextTo : Nat) (o0 : OX0) (p1 : Int32) (res : OX0) (h : fX0_clear o0 p1 = some res) : MV l Z yX0_clear cX0_clear 2 1 23 [.ref a0, .int p1] [(a0, .inr (0, [.ref a0_nextTo, .int (q0_size o0)])), (a0_nextTo, .inl (zI Z, 10, .inl (q0_nextTo o0)))] [(a0, .inr (0, [.ref a0_nextTo, .int (q0_size res)])), (a0_nextTo, .inl (zI Z, 10, .inl (q0_nextTo res)))] := by
  refine MV_of (by decide +kernel) (Nat.le_of_ble_eq_true rfl) (fun {p e s m args below meth c} A R hR Q hQ C hr hlk => ?_)
  unfold fX0_clear at h
  refine g_lv [0, 1] [(0, .ref a0), (1, .int p1)] rfl ?_
  refine g_aload_n C dX0_clear_0 rfl 0 rfl ?_
  refine g_iload_n C dX0_clear_1 rfl 1 rfl ?_
  refine g_put C 0 15 gin0 tyX0 tyX0_ok nmX0 0 rfl rfl 1 (by decide) mw_1_150 rfl rfl (ty := .int) (by decide +kernel) rfl rfl (Nat.le_of_ble_eq_true rfl) [(a0, .inr (0, [.ref a0_nextTo, .int p1])), (a0_nextTo, .inl (zI Z, 10, .inl (q0_nextTo o0)))] rfl dX0_clear_2 ?_
  refine g_aload_n C dX0_clear_5 rfl 0 rfl ?_
  refine g_get C 0 9 gin0 0 rfl rfl 0 (by decide) mw_1_148 rfl rfl dX0_clear_6 ?_
  refine g_iconst C 0 dX0_clear_9 (by decide) ?_
  obtain ⟨r1, hr2, h⟩ := bd_of h
  refine g_callSv C (kJ7_fill_53178 l Z a0_nextTo (q0_nextTo o0) 0 r1 hr2) myJ7_fill_53178 48 mw_4_59 rfl [1] [0] [0, 1] (wr := [(a0, .inr (0, [.ref a0_nextTo, .int p1]))]) rfl rfl (by decide) (by decide) (by decide) [(a0, .inr (0, [.ref a0_nextTo, .int p1])), (a0_nextTo, .inl (zI Z, 10, .inl r1))] rfl (by decide) (Nat.le_of_ble_eq_true rfl) (by rw [hR]; exact Nat.le_of_ble_eq_true rfl) (by rw [hR]; exact Nat.le_of_ble_eq_true rfl) ⟨by rw [hR]; exact Nat.le_of_ble_eq_true rfl, by rw [hR]; exact Nat.le_of_ble_eq_true rfl⟩ rfl dX0_clear_10 ?_
  obtain rfl := Option.some.inj h
  subst hQ
  exact g_vret C hr hlk dX0_clear_13 [0, 1] rfl (by decide)
def fX0_link (o0 : OX0) (p1 : Int32) (p2 : Int32) : Option (OX0) :=
  ck (okI p1 10) (ck (okI p1 10) (ck (okI p2 10) (ck (okI p2 10) (some (s0_nextTo o0 (upd (upd (q0_nextTo o0) (ix p1) (((q0_nextTo o0) (ix p1)) ||| (jshl 1 p2))) (ix p2) (((upd (q0_nextTo o0) (ix p1) (((q0_nextTo o0) (ix p1)) ||| (jshl 1 p2))) (ix p2)) ||| (jshl 1 p1))))))))
theorem myX0_link : MYv yX0_link cX0_link 3 none 2 := ⟨mw_4_65, ms_27, mw_4_66, mw_1_6, ⟨by decide +kernel, by decide +kernel⟩, by decide +kernel⟩
set_option maxRecDepth 100000 in
set_option maxHeartbeats 4000000 in
theorem kX0_link (l : Launch) (Z : GZ) (a0 a0_nextTo : Nat) (o0 : OX0) (p1 : Int32) (p2 : Int32) (res : OX0) (h : fX0_link o0 p1 p2 = some res) : MV l Z yX0_link cX0_link 3 0 0 [.ref a0, .int p1, .int p2] [(a0, .inr (0, [.ref a0_nextTo, .int (q0_size o0)])), (a0_nextTo, .inl (zI Z, 10, .inl (q0_nextTo o0)))] [(a0, .inr (0, [.ref a0_nextTo, .int (q0_size o0)])), (a0_nextTo, .inl (zI Z, 10, .inl (q0_nextTo res)))] := by
  refine MV_of (by decide +kernel) (Nat.le_of_ble_eq_true rfl) (fun {p e s m args below meth c} A R hR Q hQ C hr hlk => ?_)
  unfold fX0_link at h
  refine g_lv [0, 1, 2] [(0, .ref a0), (1, .int p1), (2, .int p2)] rfl ?_
  refine g_aload_n C dX0_link_0 rfl 0 rfl ?_
  refine g_get C 0 9 gin0 0 rfl rfl 0 (by decide) mw_1_148 rfl rfl dX0_link_1 ?_
  refine g_iload_n C dX0_link_4 rfl 1 rfl ?_
  refine g_dup2 C dX0_link_5 rfl rfl ?_
  obtain ⟨hi1, h⟩ := ck_of h
  refine g_iald C 1 rfl hi1 dX0_link_6 ?_
  refine g_iconst C 1 dX0_link_7 (by decide) ?_
  refine g_iload_n C dX0_link_8 rfl 2 rfl ?_
  refine g_ishl C dX0_link_9 ?_
  refine g_ior C dX0_link_10 ?_
  obtain ⟨hi2, h⟩ := ck_of h
  refine g_iast C 1 rfl hi2 [(a0, .inr (0, [.ref a0_nextTo, .int (q0_size o0)])), (a0_nextTo, .inl (zI Z, 10, .inl (upd (q0_nextTo o0) (ix p1) (((q0_nextTo o0) (ix p1)) ||| (jshl 1 p2)))))] rfl dX0_link_11 ?_
  refine g_aload_n C dX0_link_12 rfl 0 rfl ?_
  refine g_get C 0 9 gin0 0 rfl rfl 0 (by decide) mw_1_148 rfl rfl dX0_link_13 ?_
  refine g_iload_n C dX0_link_16 rfl 2 rfl ?_
  refine g_dup2 C dX0_link_17 rfl rfl ?_
  obtain ⟨hi3, h⟩ := ck_of h
  refine g_iald C 1 rfl hi3 dX0_link_18 ?_
  refine g_iconst C 1 dX0_link_19 (by decide) ?_
  refine g_iload_n C dX0_link_20 rfl 1 rfl ?_
  refine g_ishl C dX0_link_21 ?_
  refine g_ior C dX0_link_22 ?_
  obtain ⟨hi4, h⟩ := ck_of h
  refine g_iast C 1 rfl hi4 [(a0, .inr (0, [.ref a0_nextTo, .int (q0_size o0)])), (a0_nextTo, .inl (zI Z, 10, .inl (upd (upd (q0_nextTo o0) (ix p1) (((q0_nextTo o0) (ix p1)) ||| (jshl 1 p2))) (ix p2) (((upd (q0_nextTo o0) (ix p1) (((q0_nextTo o0) (ix p1)) ||| (jshl 1 p2))) (ix p2)) ||| (jshl 1 p1)))))] rfl dX0_link_23 ?_
  obtain rfl := Option.some.inj h
  subst hQ
  exact g_vret C hr hlk dX0_link_24 [0, 1] rfl (by decide)
def fX0_nextToAny_L4 (o0 : OX0) (p1 : Int32) (v1 : Int32 × Int32) : Option ((Int32 × Int32) ⊕ (Int32)) :=
  if (q0_size o0) ≤ v1.2 then (ex (some v1.1))
  else (if ((jshr p1 v1.2) &&& 1) = 1 then (ck (okI v1.2 10) (some (.inl ((v1.1 ||| ((q0_nextTo o0) (ix v1.2))), (v1.2 + 1)))))
  else (some (.inl (v1.1, (v1.2 + 1)))))
def fX0_nextToAny (o0 : OX0) (p1 : Int32) : Option (Int32) :=
  lp (fX0_nextToAny_L4 o0 p1) lpN (0, 0)
theorem myX0_nextToAny : MYv yX0_nextToAny cX0_nextToAny 4 (some .int) 1 := ⟨mw_5_4, ms_31, mw_5_5, mw_1_6, ⟨by decide +kernel, by decide +kernel⟩, by decide +kernel⟩
set_option maxRecDepth 100000 in
set_option maxHeartbeats 4000000 in
theorem kX0_nextToAny (l : Launch) (Z : GZ) (a0 a0_nextTo : Nat) (o0 : OX0) (p1 : Int32) (res : Int32) (h : fX0_nextToAny o0 p1 = some res) : MI l Z yX0_nextToAny cX0_nextToAny 4 .int 0 0 [.ref a0, .int p1] [(a0, .inr (0, [.ref a0_nextTo, .int (q0_size o0)])), (a0_nextTo, .inl (zI Z, 10, .inl (q0_nextTo o0)))] res [(a0, .inr (0, [.ref a0_nextTo, .int (q0_size o0)])), (a0_nextTo, .inl (zI Z, 10, .inl (q0_nextTo o0)))] := by
  refine MI_of (by decide +kernel) (Nat.le_of_ble_eq_true rfl) (fun {p e s m args below meth c} A R hR Q hQ C hr hlk => ?_)
  unfold fX0_nextToAny at h
  refine g_lv [0, 1] [(0, .ref a0), (1, .int p1)] rfl ?_
  refine g_iconst C 0 dX0_nextToAny_0 (by decide) ?_
  refine g_istore_n C dX0_nextToAny_1 rfl (by decide) [(2, .int 0), (0, .ref a0), (1, .int p1)] rfl ?_
  refine g_iconst C 0 dX0_nextToAny_2 (by decide) ?_
  refine g_istore_n C dX0_nextToAny_3 rfl (by decide) [(3, .int 0), (2, .int 0), (0, .ref a0), (1, .int p1)] rfl ?_
  refine g_lv [2, 3, 1, 0] [(0, .ref a0), (1, .int p1), (2, .int 0), (3, .int 0)] rfl ?_
  refine g_loop (lvf := fun v1 => [(0, .ref a0), (1, .int p1), (2, .int v1.1), (3, .int v1.2)]) (wsf := fun v1 => [(a0, .inr (0, [.ref a0_nextTo, .int (q0_size o0)])), (a0_nextTo, .inl (zI Z, 10, .inl (q0_nextTo o0)))]) h (fun v1 y1 h hk1 hx1 => ?_)
  refine g_eq (lv1 := [(0, .ref a0), (1, .int p1), (2, .int v1.1), (3, .int v1.2)]) (st1 := []) (ws1 := [(a0, .inr (0, [.ref a0_nextTo, .int (q0_size o0)])), (a0_nextTo, .inl (zI Z, 10, .inl (q0_nextTo o0)))]) rfl rfl rfl rfl ?_
  unfold fX0_nextToAny_L4 at h
  refine g_iload_n C dX0_nextToAny_4 rfl 3 rfl ?_
  refine g_aload_n C dX0_nextToAny_5 rfl 0 rfl ?_
  refine g_get C 0 15 gin0 0 rfl rfl 1 (by decide) mw_1_150 rfl rfl dX0_nextToAny_6 ?_
  refine g_icmp_ge C 36 dX0_nextToAny_9 (by decide) (fun c2 => ?_) (fun c2 => ?_)
  · replace h := it_t c2 h
    obtain ⟨r3, h, hy⟩ := ex_of h
    rw [hx1 r3 hy] at h
    refine g_iload_n C dX0_nextToAny_36 rfl 2 rfl ?_
    obtain rfl := Option.some.inj h
    subst hQ
    exact g_iret C rfl hr hlk dX0_nextToAny_37 [0, 1] rfl (by decide)
  · replace h := it_f c2 h
    refine g_iload_n C dX0_nextToAny_12 rfl 1 rfl ?_
    refine g_iload_n C dX0_nextToAny_13 rfl 3 rfl ?_
    refine g_ishr C dX0_nextToAny_14 ?_
    refine g_iconst C 1 dX0_nextToAny_15 (by decide) ?_
    refine g_iand C dX0_nextToAny_16 ?_
    refine g_iconst C 1 dX0_nextToAny_17 (by decide) ?_
    refine g_icmp_ne C 30 dX0_nextToAny_18 (by decide) (fun c4 => ?_) (fun c4 => ?_)
    · replace h := it_f c4 h
      refine g_iinc C (v1.2 + 1) dX0_nextToAny_30 3 rfl rfl (by decide) [(3, .int (v1.2 + 1)), (0, .ref a0), (1, .int p1), (2, .int v1.1)] rfl ?_
      refine g_goto C 4 dX0_nextToAny_33 (by decide) ?_
      refine g_lv [1, 2, 3, 0] [(0, .ref a0), (1, .int p1), (2, .int v1.1), (3, .int (v1.2 + 1))] rfl ?_
      exact hk1 (v1.1, (v1.2 + 1)) (Option.some.inj h).symm
    · replace h := it_t c4 h
      refine g_iload_n C dX0_nextToAny_21 rfl 2 rfl ?_
      refine g_aload_n C dX0_nextToAny_22 rfl 0 rfl ?_
      refine g_get C 0 9 gin0 0 rfl rfl 0 (by decide) mw_1_148 rfl rfl dX0_nextToAny_23 ?_
      refine g_iload_n C dX0_nextToAny_26 rfl 3 rfl ?_
      obtain ⟨hi5, h⟩ := ck_of h
      refine g_iald C 1 rfl hi5 dX0_nextToAny_27 ?_
      refine g_ior C dX0_nextToAny_28 ?_
      refine g_istore_n C dX0_nextToAny_29 rfl (by decide) [(2, .int (v1.1 ||| ((q0_nextTo o0) (ix v1.2)))), (0, .ref a0), (1, .int p1), (3, .int v1.2)] rfl ?_
      refine g_iinc C (v1.2 + 1) dX0_nextToAny_30 3 rfl rfl (by decide) [(3, .int (v1.2 + 1)), (2, .int (v1.1 ||| ((q0_nextTo o0) (ix v1.2)))), (0, .ref a0), (1, .int p1)] rfl ?_
      refine g_goto C 4 dX0_nextToAny_33 (by decide) ?_
      refine g_lv [2, 3, 1, 0] [(0, .ref a0), (1, .int p1), (2, .int (v1.1 ||| ((q0_nextTo o0) (ix v1.2)))), (3, .int (v1.2 + 1))] rfl ?_
      exact hk1 ((v1.1 ||| ((q0_nextTo o0) (ix v1.2))), (v1.2 + 1)) (Option.some.inj h).symm
def fX0_length_L7 (o0 : OX0) (p2 : Int32) (v1 : Int32 × Int32) : Option ((Int32 × Int32) ⊕ (Int32)) :=
  if (q0_size o0) ≤ v1.2 then (ex (some (-1)))
  else (if ((jshr v1.1 p2) &&& 1) = 1 then (ex (some v1.2))
  else ((fX0_nextToAny o0 v1.1).bind fun r5 =>
  (some (.inl ((v1.1 ||| r5), (v1.2 + 1))))))
def fX0_length (o0 : OX0) (p1 : Int32) (p2 : Int32) : Option (Int32) :=
  lp (fX0_length_L7 o0 p2) lpN ((jshl 1 p1), 0)
theorem myX0_length : MYv yX0_length cX0_length 5 (some .int) 2 := ⟨mw_4_239, mw_5_0, mw_5_1, mw_1_6, ⟨by decide +kernel, by decide +kernel⟩, by decide +kernel⟩
set_option maxRecDepth 100000 in
set_option maxHeartbeats 4000000 in
theorem kX0_length (l : Launch) (Z : GZ) (a0 a0_nextTo : Nat) (o0 : OX0) (p1 : Int32) (p2 : Int32) (res : Int32) (h : fX0_length o0 p1 p2 = some res) : MI l Z yX0_length cX0_length 5 .int 1 23 [.ref a0, .int p1, .int p2] [(a0, .inr (0, [.ref a0_nextTo, .int (q0_size o0)])), (a0_nextTo, .inl (zI Z, 10, .inl (q0_nextTo o0)))] res [(a0, .inr (0, [.ref a0_nextTo, .int (q0_size o0)])), (a0_nextTo, .inl (zI Z, 10, .inl (q0_nextTo o0)))] := by
  refine MI_of (by decide +kernel) (Nat.le_of_ble_eq_true rfl) (fun {p e s m args below meth c} A R hR Q hQ C hr hlk => ?_)
  unfold fX0_length at h
  refine g_lv [0, 1, 2] [(0, .ref a0), (1, .int p1), (2, .int p2)] rfl ?_
  refine g_iconst C 1 dX0_length_0 (by decide) ?_
  refine g_iload_n C dX0_length_1 rfl 1 rfl ?_
  refine g_ishl C dX0_length_2 ?_
  refine g_istore_n C dX0_length_3 rfl (by decide) [(3, .int (jshl 1 p1)), (0, .ref a0), (1, .int p1), (2, .int p2)] rfl ?_
  refine g_iconst C 0 dX0_length_4 (by decide) ?_
  refine g_istore C dX0_length_5 (by decide) [(4, .int 0), (3, .int (jshl 1 p1)), (0, .ref a0), (1, .int p1), (2, .int p2)] rfl ?_
  refine g_lv [2, 4, 1, 0] [(0, .ref a0), (2, .int p2), (3, .int (jshl 1 p1)), (4, .int 0)] rfl ?_
  refine g_loop (lvf := fun v1 => [(0, .ref a0), (2, .int p2), (3, .int v1.1), (4, .int v1.2)]) (wsf := fun v1 => [(a0, .inr (0, [.ref a0_nextTo, .int (q0_size o0)])), (a0_nextTo, .inl (zI Z, 10, .inl (q0_nextTo o0)))]) h (fun v1 y1 h hk1 hx1 => ?_)
  refine g_eq (lv1 := [(0, .ref a0), (2, .int p2), (3, .int v1.1), (4, .int v1.2)]) (st1 := []) (ws1 := [(a0, .inr (0, [.ref a0_nextTo, .int (q0_size o0)])), (a0_nextTo, .inl (zI Z, 10, .inl (q0_nextTo o0)))]) rfl rfl rfl rfl ?_
  unfold fX0_length_L7 at h
  refine g_iload C dX0_length_7 3 rfl ?_
  refine g_aload_n C dX0_length_9 rfl 0 rfl ?_
  refine g_get C 0 15 gin0 0 rfl rfl 1 (by decide) mw_1_150 rfl rfl dX0_length_10 ?_
  refine g_icmp_ge C 42 dX0_length_13 (by decide) (fun c2 => ?_) (fun c2 => ?_)
  · replace h := it_t c2 h
    obtain ⟨r3, h, hy⟩ := ex_of h
    rw [hx1 r3 hy] at h
    refine g_iconst C (-1) dX0_length_42 (by decide) ?_
    obtain rfl := Option.some.inj h
    subst hQ
    exact g_iret C rfl hr hlk dX0_length_43 [0, 1] rfl (by decide)
  · replace h := it_f c2 h
    refine g_iload_n C dX0_length_16 rfl 2 rfl ?_
    refine g_iload_n C dX0_length_17 rfl 1 rfl ?_
    refine g_ishr C dX0_length_18 ?_
    refine g_iconst C 1 dX0_length_19 (by decide) ?_
    refine g_iand C dX0_length_20 ?_
    refine g_iconst C 1 dX0_length_21 (by decide) ?_
    refine g_icmp_ne C 28 dX0_length_22 (by decide) (fun c4 => ?_) (fun c4 => ?_)
    · replace h := it_f c4 h
      refine g_iload_n C dX0_length_28 rfl 2 rfl ?_
      refine g_aload_n C dX0_length_29 rfl 0 rfl ?_
      refine g_iload_n C dX0_length_30 rfl 2 rfl ?_
      obtain ⟨r5, hr6, h⟩ := bd_of h
      refine g_callVi C (kX0_nextToAny l Z a0 a0_nextTo o0 v1.1 r5 hr6) 0 rfl (ci := 0) rfl rfl myX0_nextToAny 54 mw_5_2 rfl [0, 1] [] [0, 1] (wr := []) rfl rfl (by decide) (by decide) (by decide) [(a0, .inr (0, [.ref a0_nextTo, .int (q0_size o0)])), (a0_nextTo, .inl (zI Z, 10, .inl (q0_nextTo o0)))] rfl (by decide) (Nat.le_of_ble_eq_true rfl) (by rw [hR]; exact Nat.le_of_ble_eq_true rfl) (by rw [hR]; exact Nat.le_of_ble_eq_true rfl) ⟨by rw [hR]; exact Nat.le_of_ble_eq_true rfl, by rw [hR]; exact Nat.le_of_ble_eq_true rfl⟩ rfl dX0_length_31 ?_
      refine g_ior C dX0_length_34 ?_
      refine g_istore_n C dX0_length_35 rfl (by decide) [(3, .int (v1.1 ||| r5)), (0, .ref a0), (2, .int p2), (4, .int v1.2)] rfl ?_
      refine g_iinc C (v1.2 + 1) dX0_length_36 3 rfl rfl (by decide) [(4, .int (v1.2 + 1)), (3, .int (v1.1 ||| r5)), (0, .ref a0), (2, .int p2)] rfl ?_
      refine g_goto C 7 dX0_length_39 (by decide) ?_
      refine g_lv [2, 3, 1, 0] [(0, .ref a0), (2, .int p2), (3, .int (v1.1 ||| r5)), (4, .int (v1.2 + 1))] rfl ?_
      exact hk1 ((v1.1 ||| r5), (v1.2 + 1)) (Option.some.inj h).symm
    · replace h := it_t c4 h
      obtain ⟨r7, h, hy⟩ := ex_of h
      rw [hx1 r7 hy] at h
      refine g_iload C dX0_length_25 3 rfl ?_
      obtain rfl := Option.some.inj h
      subst hQ
      exact g_iret C rfl hr hlk dX0_length_27 [0, 1] rfl (by decide)
def fX0_linkPoints_L21 (o2 : OX3) (r1 : OX0) (v3 : Int32 × (Nat → Int32)) (v6 : Int32 × (Nat → Int32)) : Option ((Int32 × (Nat → Int32)) ⊕ ((Int32 × (Nat → Int32)) ⊕ (OX0))) :=
  if v3.1 ≤ v6.1 then (ex (some (.inl ((v3.1 + 1), v6.2))))
  else ((fX3_isFace o2 ((jshl 1 v3.1) ||| (jshl 1 v6.1))).bind fun r9 =>
  (if r9 = 0 then (some (.inl ((v6.1 + 1), v6.2)))
  else ((fX0_link (s0_nextTo r1 v6.2) v3.1 v6.1).bind fun r12 =>
  (some (.inl ((v6.1 + 1), (q0_nextTo r12)))))))
def fX0_linkPoints_L10 (o2 : OX3) (r1 : OX0) (v3 : Int32 × (Nat → Int32)) : Option ((Int32 × (Nat → Int32)) ⊕ (OX0)) :=
  if (q0_size r1) ≤ v3.1 then (ex (some (s0_nextTo r1 v3.2)))
  else (lp (fX0_linkPoints_L21 o2 r1 v3) lpN (0, v3.2))
def fX0_linkPoints (o0 : OX0) (o1 : OX2) (o2 : OX3) : Option (OX0) :=
  (fX0_clear o0 (q2_points o1)).bind fun r1 =>
  (lp (fX0_linkPoints_L10 o2 r1) lpN (0, (q0_nextTo r1)))
theorem myX0_linkPoints : MYv yX0_linkPoints cX0_linkPoints 6 none 2 := ⟨mw_4_52, mw_4_53, mw_4_54, mw_1_6, ⟨by decide +kernel, by decide +kernel⟩, by decide +kernel⟩
set_option maxRecDepth 100000 in
set_option maxHeartbeats 4000000 in
theorem kX0_linkPoints (l : Launch) (Z : GZ) (a0 a0_nextTo a1 a1_sets a2 a2_closed a2_ranks a2_numbers a2_sets a2_rankSizes a2_tally : Nat) (o0 : OX0) (o1 : OX2) (o2 : OX3) (res : OX0) (h : fX0_linkPoints o0 o1 o2 = some res) : MV l Z yX0_linkPoints cX0_linkPoints 6 2 44 [.ref a0, .ref a1, .ref a2] [(a0, .inr (0, [.ref a0_nextTo, .int (q0_size o0)])), (a0_nextTo, .inl (zI Z, 10, .inl (q0_nextTo o0))), (a1, .inr (2, [.ref a1_sets, .int (q2_points o1), .int (q2_facets o1)])), (a2, .inr (3, [.ref a2_closed, .ref a2_ranks, .ref a2_numbers, .ref a2_sets, .ref a2_rankSizes, .int (q3_size o2), .ref a2_tally, .int (q3_points o2), .int (q3_all o2)])), (a2_closed, .inl (zI Z, 256, .inl (q3_closed o2)))] [(a0, .inr (0, [.ref a0_nextTo, .int (q0_size res)])), (a0_nextTo, .inl (zI Z, 10, .inl (q0_nextTo res))), (a1, .inr (2, [.ref a1_sets, .int (q2_points o1), .int (q2_facets o1)])), (a2, .inr (3, [.ref a2_closed, .ref a2_ranks, .ref a2_numbers, .ref a2_sets, .ref a2_rankSizes, .int (q3_size o2), .ref a2_tally, .int (q3_points o2), .int (q3_all o2)])), (a2_closed, .inl (zI Z, 256, .inl (q3_closed o2)))] := by
  refine MV_of (by decide +kernel) (Nat.le_of_ble_eq_true rfl) (fun {p e s m args below meth c} A R hR Q hQ C hr hlk => ?_)
  unfold fX0_linkPoints at h
  refine g_lv [0, 1, 2] [(0, .ref a0), (1, .ref a1), (2, .ref a2)] rfl ?_
  refine g_aload_n C dX0_linkPoints_0 rfl 0 rfl ?_
  refine g_aload_n C dX0_linkPoints_1 rfl 1 rfl ?_
  refine g_get C 2 19 gin2 2 rfl rfl 1 (by decide) mw_1_75 rfl rfl dX0_linkPoints_2 ?_
  obtain ⟨r1, hr2, h⟩ := bd_of h
  refine g_callVv C (kX0_clear l Z a0 a0_nextTo o0 (q2_points o1) r1 hr2) 0 rfl (ci := 0) rfl rfl myX0_clear 24 mw_4_55 rfl [0, 1] [2, 3, 4] [3, 4, 0, 1, 2] (wr := [(a1, .inr (2, [.ref a1_sets, .int (q2_points o1), .int (q2_facets o1)])), (a2, .inr (3, [.ref a2_closed, .ref a2_ranks, .ref a2_numbers, .ref a2_sets, .ref a2_rankSizes, .int (q3_size o2), .ref a2_tally, .int (q3_points o2), .int (q3_all o2)])), (a2_closed, .inl (zI Z, 256, .inl (q3_closed o2)))]) rfl rfl (by decide) (by decide) (by decide) [(a0, .inr (0, [.ref a0_nextTo, .int (q0_size r1)])), (a0_nextTo, .inl (zI Z, 10, .inl (q0_nextTo r1))), (a1, .inr (2, [.ref a1_sets, .int (q2_points o1), .int (q2_facets o1)])), (a2, .inr (3, [.ref a2_closed, .ref a2_ranks, .ref a2_numbers, .ref a2_sets, .ref a2_rankSizes, .int (q3_size o2), .ref a2_tally, .int (q3_points o2), .int (q3_all o2)])), (a2_closed, .inl (zI Z, 256, .inl (q3_closed o2)))] rfl (by decide) (Nat.le_of_ble_eq_true rfl) (by rw [hR]; exact Nat.le_of_ble_eq_true rfl) (by rw [hR]; exact Nat.le_of_ble_eq_true rfl) ⟨by rw [hR]; exact Nat.le_of_ble_eq_true rfl, by rw [hR]; exact Nat.le_of_ble_eq_true rfl⟩ rfl dX0_linkPoints_5 ?_
  refine g_iconst C 0 dX0_linkPoints_8 (by decide) ?_
  refine g_istore_n C dX0_linkPoints_9 rfl (by decide) [(3, .int 0), (0, .ref a0), (1, .ref a1), (2, .ref a2)] rfl ?_
  refine g_lv [1, 3, 0] [(0, .ref a0), (2, .ref a2), (3, .int 0)] rfl ?_
  refine g_loop (lvf := fun v3 => [(0, .ref a0), (2, .ref a2), (3, .int v3.1)]) (wsf := fun v3 => [(a0, .inr (0, [.ref a0_nextTo, .int (q0_size r1)])), (a0_nextTo, .inl (zI Z, 10, .inl v3.2)), (a1, .inr (2, [.ref a1_sets, .int (q2_points o1), .int (q2_facets o1)])), (a2, .inr (3, [.ref a2_closed, .ref a2_ranks, .ref a2_numbers, .ref a2_sets, .ref a2_rankSizes, .int (q3_size o2), .ref a2_tally, .int (q3_points o2), .int (q3_all o2)])), (a2_closed, .inl (zI Z, 256, .inl (q3_closed o2)))]) h (fun v3 y1 h hk1 hx1 => ?_)
  refine g_eq (lv1 := [(0, .ref a0), (2, .ref a2), (3, .int v3.1)]) (st1 := []) (ws1 := [(a0, .inr (0, [.ref a0_nextTo, .int (q0_size r1)])), (a0_nextTo, .inl (zI Z, 10, .inl v3.2)), (a1, .inr (2, [.ref a1_sets, .int (q2_points o1), .int (q2_facets o1)])), (a2, .inr (3, [.ref a2_closed, .ref a2_ranks, .ref a2_numbers, .ref a2_sets, .ref a2_rankSizes, .int (q3_size o2), .ref a2_tally, .int (q3_points o2), .int (q3_all o2)])), (a2_closed, .inl (zI Z, 256, .inl (q3_closed o2)))]) rfl rfl rfl rfl ?_
  unfold fX0_linkPoints_L10 at h
  refine g_iload_n C dX0_linkPoints_10 rfl 2 rfl ?_
  refine g_aload_n C dX0_linkPoints_11 rfl 0 rfl ?_
  refine g_get C 0 15 gin0 0 rfl rfl 1 (by decide) mw_1_150 rfl rfl dX0_linkPoints_12 ?_
  refine g_icmp_ge C 65 dX0_linkPoints_15 (by decide) (fun c4 => ?_) (fun c4 => ?_)
  · replace h := it_t c4 h
    obtain ⟨r5, h, hy⟩ := ex_of h
    rw [hx1 r5 hy] at h
    obtain rfl := Option.some.inj h
    subst hQ
    exact g_vret C hr hlk dX0_linkPoints_65 [0, 1, 2, 3, 4] rfl (by decide)
  · replace h := it_f c4 h
    refine g_iconst C 0 dX0_linkPoints_18 (by decide) ?_
    refine g_istore C dX0_linkPoints_19 (by decide) [(4, .int 0), (0, .ref a0), (2, .ref a2), (3, .int v3.1)] rfl ?_
    refine g_lv [1, 2, 3, 0] [(0, .ref a0), (2, .ref a2), (3, .int v3.1), (4, .int 0)] rfl ?_
    refine g_loop (lvf := fun v6 => [(0, .ref a0), (2, .ref a2), (3, .int v3.1), (4, .int v6.1)]) (wsf := fun v6 => [(a0, .inr (0, [.ref a0_nextTo, .int (q0_size r1)])), (a0_nextTo, .inl (zI Z, 10, .inl v6.2)), (a1, .inr (2, [.ref a1_sets, .int (q2_points o1), .int (q2_facets o1)])), (a2, .inr (3, [.ref a2_closed, .ref a2_ranks, .ref a2_numbers, .ref a2_sets, .ref a2_rankSizes, .int (q3_size o2), .ref a2_tally, .int (q3_points o2), .int (q3_all o2)])), (a2_closed, .inl (zI Z, 256, .inl (q3_closed o2)))]) h (fun v6 y2 h hk2 hx2 => ?_)
    refine g_eq (lv1 := [(0, .ref a0), (2, .ref a2), (3, .int v3.1), (4, .int v6.1)]) (st1 := []) (ws1 := [(a0, .inr (0, [.ref a0_nextTo, .int (q0_size r1)])), (a0_nextTo, .inl (zI Z, 10, .inl v6.2)), (a1, .inr (2, [.ref a1_sets, .int (q2_points o1), .int (q2_facets o1)])), (a2, .inr (3, [.ref a2_closed, .ref a2_ranks, .ref a2_numbers, .ref a2_sets, .ref a2_rankSizes, .int (q3_size o2), .ref a2_tally, .int (q3_points o2), .int (q3_all o2)])), (a2_closed, .inl (zI Z, 256, .inl (q3_closed o2)))]) rfl rfl rfl rfl ?_
    unfold fX0_linkPoints_L21 at h
    refine g_iload C dX0_linkPoints_21 3 rfl ?_
    refine g_iload_n C dX0_linkPoints_23 rfl 2 rfl ?_
    refine g_icmp_ge C 59 dX0_linkPoints_24 (by decide) (fun c7 => ?_) (fun c7 => ?_)
    · replace h := it_t c7 h
      obtain ⟨r8, h, hy⟩ := ex_of h
      rw [hx2 r8 hy] at h
      refine g_iinc C (v3.1 + 1) dX0_linkPoints_59 2 rfl rfl (by decide) [(3, .int (v3.1 + 1)), (0, .ref a0), (2, .ref a2), (4, .int v6.1)] rfl ?_
      refine g_goto C 10 dX0_linkPoints_62 (by decide) ?_
      refine g_lv [1, 2, 0] [(0, .ref a0), (2, .ref a2), (3, .int (v3.1 + 1))] rfl ?_
      exact hk1 ((v3.1 + 1), v6.2) (Option.some.inj h).symm
    · replace h := it_f c7 h
      refine g_iconst C 1 dX0_linkPoints_27 (by decide) ?_
      refine g_iload_n C dX0_linkPoints_28 rfl 2 rfl ?_
      refine g_ishl C dX0_linkPoints_29 ?_
      refine g_iconst C 1 dX0_linkPoints_30 (by decide) ?_
      refine g_iload C dX0_linkPoints_31 3 rfl ?_
      refine g_ishl C dX0_linkPoints_33 ?_
      refine g_ior C dX0_linkPoints_34 ?_
      refine g_istore C dX0_linkPoints_35 (by decide) [(5, .int ((jshl 1 v3.1) ||| (jshl 1 v6.1))), (0, .ref a0), (2, .ref a2), (3, .int v3.1), (4, .int v6.1)] rfl ?_
      refine g_aload_n C dX0_linkPoints_37 rfl 2 rfl ?_
      refine g_iload C dX0_linkPoints_38 0 rfl ?_
      obtain ⟨r9, hr10, h⟩ := bd_of h
      refine g_callVi C (kX3_isFace l Z a2 a2_closed a2_ranks a2_numbers a2_sets a2_rankSizes a2_tally o2 ((jshl 1 v3.1) ||| (jshl 1 v6.1)) r9 hr10) 0 rfl (ci := 3) rfl rfl myX3_isFace 28 mw_4_62 rfl [3, 4] [0, 1, 2] [0, 1, 2, 3, 4] (wr := [(a0, .inr (0, [.ref a0_nextTo, .int (q0_size r1)])), (a0_nextTo, .inl (zI Z, 10, .inl v6.2)), (a1, .inr (2, [.ref a1_sets, .int (q2_points o1), .int (q2_facets o1)]))]) rfl rfl (by decide) (by decide) (by decide) [(a0, .inr (0, [.ref a0_nextTo, .int (q0_size r1)])), (a0_nextTo, .inl (zI Z, 10, .inl v6.2)), (a1, .inr (2, [.ref a1_sets, .int (q2_points o1), .int (q2_facets o1)])), (a2, .inr (3, [.ref a2_closed, .ref a2_ranks, .ref a2_numbers, .ref a2_sets, .ref a2_rankSizes, .int (q3_size o2), .ref a2_tally, .int (q3_points o2), .int (q3_all o2)])), (a2_closed, .inl (zI Z, 256, .inl (q3_closed o2)))] rfl (by decide) (Nat.le_of_ble_eq_true rfl) (by rw [hR]; exact Nat.le_of_ble_eq_true rfl) (by rw [hR]; exact Nat.le_of_ble_eq_true rfl) ⟨by rw [hR]; exact Nat.le_of_ble_eq_true rfl, by rw [hR]; exact Nat.le_of_ble_eq_true rfl⟩ rfl dX0_linkPoints_40 ?_
      refine g_if_eq C 53 dX0_linkPoints_43 (by decide) (fun c11 => ?_) (fun c11 => ?_)
      · replace h := it_t c11 h
        refine g_iinc C (v6.1 + 1) dX0_linkPoints_53 4 rfl rfl (by decide) [(4, .int (v6.1 + 1)), (5, .int ((jshl 1 v3.1) ||| (jshl 1 v6.1))), (0, .ref a0), (2, .ref a2), (3, .int v3.1)] rfl ?_
        refine g_goto C 21 dX0_linkPoints_56 (by decide) ?_
        refine g_lv [2, 3, 4, 0] [(0, .ref a0), (2, .ref a2), (3, .int v3.1), (4, .int (v6.1 + 1))] rfl ?_
        exact hk2 ((v6.1 + 1), v6.2) (Option.some.inj h).symm
      · replace h := it_f c11 h
        refine g_aload_n C dX0_linkPoints_46 rfl 1 rfl ?_
        refine g_iload_n C dX0_linkPoints_47 rfl 3 rfl ?_
        refine g_iload C dX0_linkPoints_48 4 rfl ?_
        obtain ⟨r12, hr13, h⟩ := bd_of h
        refine g_callVv C (kX0_link l Z a0 a0_nextTo (s0_nextTo r1 v6.2) v3.1 v6.1 r12 hr13) 0 rfl (ci := 0) rfl rfl myX0_link 34 mw_4_63 rfl [0, 1] [2, 3, 4] [3, 4, 0, 1, 2] (wr := [(a1, .inr (2, [.ref a1_sets, .int (q2_points o1), .int (q2_facets o1)])), (a2, .inr (3, [.ref a2_closed, .ref a2_ranks, .ref a2_numbers, .ref a2_sets, .ref a2_rankSizes, .int (q3_size o2), .ref a2_tally, .int (q3_points o2), .int (q3_all o2)])), (a2_closed, .inl (zI Z, 256, .inl (q3_closed o2)))]) rfl rfl (by decide) (by decide) (by decide) [(a0, .inr (0, [.ref a0_nextTo, .int (q0_size r1)])), (a0_nextTo, .inl (zI Z, 10, .inl (q0_nextTo r12))), (a1, .inr (2, [.ref a1_sets, .int (q2_points o1), .int (q2_facets o1)])), (a2, .inr (3, [.ref a2_closed, .ref a2_ranks, .ref a2_numbers, .ref a2_sets, .ref a2_rankSizes, .int (q3_size o2), .ref a2_tally, .int (q3_points o2), .int (q3_all o2)])), (a2_closed, .inl (zI Z, 256, .inl (q3_closed o2)))] rfl (by decide) (Nat.le_of_ble_eq_true rfl) (by rw [hR]; exact Nat.le_of_ble_eq_true rfl) (by rw [hR]; exact Nat.le_of_ble_eq_true rfl) ⟨by rw [hR]; exact Nat.le_of_ble_eq_true rfl, by rw [hR]; exact Nat.le_of_ble_eq_true rfl⟩ rfl dX0_linkPoints_50 ?_
        refine g_iinc C (v6.1 + 1) dX0_linkPoints_53 4 rfl rfl (by decide) [(4, .int (v6.1 + 1)), (5, .int ((jshl 1 v3.1) ||| (jshl 1 v6.1))), (0, .ref a0), (2, .ref a2), (3, .int v3.1)] rfl ?_
        refine g_goto C 21 dX0_linkPoints_56 (by decide) ?_
        refine g_lv [2, 3, 4, 0] [(0, .ref a0), (2, .ref a2), (3, .int v3.1), (4, .int (v6.1 + 1))] rfl ?_
        exact hk2 ((v6.1 + 1), (q0_nextTo r12)) (Option.some.inj h).symm
def fX0_linkFacets_L21 (o1 : OX2) (o2 : OX3) (r1 : OX0) (v3 : Int32 × (Nat → Int32)) (v6 : Int32 × (Nat → Int32)) : Option ((Int32 × (Nat → Int32)) ⊕ ((Int32 × (Nat → Int32)) ⊕ (OX0))) :=
  if v3.1 ≤ v6.1 then (ex (some (.inl ((v3.1 + 1), v6.2))))
  else (ck (okI v3.1 10) (ck (okI v6.1 10) (ck (okI v3.1 10) (ck (okI v6.1 10) (if ((q2_sets o1) (ix v3.1)) = ((q2_sets o1) (ix v6.1)) then (some (.inl ((v6.1 + 1), v6.2)))
  else (ck (okI v3.1 10) ((fX3_isCover o2 (((q2_sets o1) (ix v3.1)) &&& ((q2_sets o1) (ix v6.1))) ((q2_sets o1) (ix v3.1))).bind fun r15 =>
  (if r15 = 0 then (some (.inl ((v6.1 + 1), v6.2)))
  else (ck (okI v6.1 10) ((fX3_isCover o2 (((q2_sets o1) (ix v3.1)) &&& ((q2_sets o1) (ix v6.1))) ((q2_sets o1) (ix v6.1))).bind fun r19 =>
  (if r19 = 0 then (some (.inl ((v6.1 + 1), v6.2)))
  else ((fX0_link (s0_nextTo r1 v6.2) v3.1 v6.1).bind fun r22 =>
  (some (.inl ((v6.1 + 1), (q0_nextTo r22))))))))))))))))
def fX0_linkFacets_L10 (o1 : OX2) (o2 : OX3) (r1 : OX0) (v3 : Int32 × (Nat → Int32)) : Option ((Int32 × (Nat → Int32)) ⊕ (OX0)) :=
  if (q0_size r1) ≤ v3.1 then (ex (some (s0_nextTo r1 v3.2)))
  else (lp (fX0_linkFacets_L21 o1 o2 r1 v3) lpN (0, v3.2))
def fX0_linkFacets (o0 : OX0) (o1 : OX2) (o2 : OX3) : Option (OX0) :=
  (fX0_clear o0 (q2_facets o1)).bind fun r1 =>
  (lp (fX0_linkFacets_L10 o1 o2 r1) lpN (0, (q0_nextTo r1)))
theorem myX0_linkFacets : MYv yX0_linkFacets cX0_linkFacets 6 none 2 := ⟨mw_4_227, mw_4_228, mw_4_229, mw_1_6, ⟨by decide +kernel, by decide +kernel⟩, by decide +kernel⟩
set_option maxRecDepth 100000 in
set_option maxHeartbeats 4000000 in
theorem kX0_linkFacets (l : Launch) (Z : GZ) (a0 a0_nextTo a1 a1_sets a2 a2_closed a2_ranks a2_numbers a2_sets a2_rankSizes a2_tally : Nat) (o0 : OX0) (o1 : OX2) (o2 : OX3) (res : OX0) (h : fX0_linkFacets o0 o1 o2 = some res) : MV l Z yX0_linkFacets cX0_linkFacets 6 2 44 [.ref a0, .ref a1, .ref a2] [(a0, .inr (0, [.ref a0_nextTo, .int (q0_size o0)])), (a0_nextTo, .inl (zI Z, 10, .inl (q0_nextTo o0))), (a1, .inr (2, [.ref a1_sets, .int (q2_points o1), .int (q2_facets o1)])), (a1_sets, .inl (zI Z, 10, .inl (q2_sets o1))), (a2, .inr (3, [.ref a2_closed, .ref a2_ranks, .ref a2_numbers, .ref a2_sets, .ref a2_rankSizes, .int (q3_size o2), .ref a2_tally, .int (q3_points o2), .int (q3_all o2)])), (a2_closed, .inl (zI Z, 256, .inl (q3_closed o2)))] [(a0, .inr (0, [.ref a0_nextTo, .int (q0_size res)])), (a0_nextTo, .inl (zI Z, 10, .inl (q0_nextTo res))), (a1, .inr (2, [.ref a1_sets, .int (q2_points o1), .int (q2_facets o1)])), (a1_sets, .inl (zI Z, 10, .inl (q2_sets o1))), (a2, .inr (3, [.ref a2_closed, .ref a2_ranks, .ref a2_numbers, .ref a2_sets, .ref a2_rankSizes, .int (q3_size o2), .ref a2_tally, .int (q3_points o2), .int (q3_all o2)])), (a2_closed, .inl (zI Z, 256, .inl (q3_closed o2)))] := by
  refine MV_of (by decide +kernel) (Nat.le_of_ble_eq_true rfl) (fun {p e s m args below meth c} A R hR Q hQ C hr hlk => ?_)
  unfold fX0_linkFacets at h
  refine g_lv [0, 1, 2] [(0, .ref a0), (1, .ref a1), (2, .ref a2)] rfl ?_
  refine g_aload_n C dX0_linkFacets_0 rfl 0 rfl ?_
  refine g_aload_n C dX0_linkFacets_1 rfl 1 rfl ?_
  refine g_get C 2 38 gin2 2 rfl rfl 2 (by decide) mw_1_80 rfl rfl dX0_linkFacets_2 ?_
  obtain ⟨r1, hr2, h⟩ := bd_of h
  refine g_callVv C (kX0_clear l Z a0 a0_nextTo o0 (q2_facets o1) r1 hr2) 0 rfl (ci := 0) rfl rfl myX0_clear 24 mw_4_55 rfl [0, 1] [2, 3, 4, 5] [4, 5, 0, 1, 2, 3] (wr := [(a1, .inr (2, [.ref a1_sets, .int (q2_points o1), .int (q2_facets o1)])), (a1_sets, .inl (zI Z, 10, .inl (q2_sets o1))), (a2, .inr (3, [.ref a2_closed, .ref a2_ranks, .ref a2_numbers, .ref a2_sets, .ref a2_rankSizes, .int (q3_size o2), .ref a2_tally, .int (q3_points o2), .int (q3_all o2)])), (a2_closed, .inl (zI Z, 256, .inl (q3_closed o2)))]) rfl rfl (by decide) (by decide) (by decide) [(a0, .inr (0, [.ref a0_nextTo, .int (q0_size r1)])), (a0_nextTo, .inl (zI Z, 10, .inl (q0_nextTo r1))), (a1, .inr (2, [.ref a1_sets, .int (q2_points o1), .int (q2_facets o1)])), (a1_sets, .inl (zI Z, 10, .inl (q2_sets o1))), (a2, .inr (3, [.ref a2_closed, .ref a2_ranks, .ref a2_numbers, .ref a2_sets, .ref a2_rankSizes, .int (q3_size o2), .ref a2_tally, .int (q3_points o2), .int (q3_all o2)])), (a2_closed, .inl (zI Z, 256, .inl (q3_closed o2)))] rfl (by decide) (Nat.le_of_ble_eq_true rfl) (by rw [hR]; exact Nat.le_of_ble_eq_true rfl) (by rw [hR]; exact Nat.le_of_ble_eq_true rfl) ⟨by rw [hR]; exact Nat.le_of_ble_eq_true rfl, by rw [hR]; exact Nat.le_of_ble_eq_true rfl⟩ rfl dX0_linkFacets_5 ?_
  refine g_iconst C 0 dX0_linkFacets_8 (by decide) ?_
  refine g_istore_n C dX0_linkFacets_9 rfl (by decide) [(3, .int 0), (0, .ref a0), (1, .ref a1), (2, .ref a2)] rfl ?_
  refine g_lv [1, 2, 3, 0] [(0, .ref a0), (1, .ref a1), (2, .ref a2), (3, .int 0)] rfl ?_
  refine g_loop (lvf := fun v3 => [(0, .ref a0), (1, .ref a1), (2, .ref a2), (3, .int v3.1)]) (wsf := fun v3 => [(a0, .inr (0, [.ref a0_nextTo, .int (q0_size r1)])), (a0_nextTo, .inl (zI Z, 10, .inl v3.2)), (a1, .inr (2, [.ref a1_sets, .int (q2_points o1), .int (q2_facets o1)])), (a1_sets, .inl (zI Z, 10, .inl (q2_sets o1))), (a2, .inr (3, [.ref a2_closed, .ref a2_ranks, .ref a2_numbers, .ref a2_sets, .ref a2_rankSizes, .int (q3_size o2), .ref a2_tally, .int (q3_points o2), .int (q3_all o2)])), (a2_closed, .inl (zI Z, 256, .inl (q3_closed o2)))]) h (fun v3 y1 h hk1 hx1 => ?_)
  refine g_eq (lv1 := [(0, .ref a0), (1, .ref a1), (2, .ref a2), (3, .int v3.1)]) (st1 := []) (ws1 := [(a0, .inr (0, [.ref a0_nextTo, .int (q0_size r1)])), (a0_nextTo, .inl (zI Z, 10, .inl v3.2)), (a1, .inr (2, [.ref a1_sets, .int (q2_points o1), .int (q2_facets o1)])), (a1_sets, .inl (zI Z, 10, .inl (q2_sets o1))), (a2, .inr (3, [.ref a2_closed, .ref a2_ranks, .ref a2_numbers, .ref a2_sets, .ref a2_rankSizes, .int (q3_size o2), .ref a2_tally, .int (q3_points o2), .int (q3_all o2)])), (a2_closed, .inl (zI Z, 256, .inl (q3_closed o2)))]) rfl rfl rfl rfl ?_
  unfold fX0_linkFacets_L10 at h
  refine g_iload_n C dX0_linkFacets_10 rfl 3 rfl ?_
  refine g_aload_n C dX0_linkFacets_11 rfl 0 rfl ?_
  refine g_get C 0 15 gin0 0 rfl rfl 1 (by decide) mw_1_150 rfl rfl dX0_linkFacets_12 ?_
  refine g_icmp_ge C 109 dX0_linkFacets_15 (by decide) (fun c4 => ?_) (fun c4 => ?_)
  · replace h := it_t c4 h
    obtain ⟨r5, h, hy⟩ := ex_of h
    rw [hx1 r5 hy] at h
    obtain rfl := Option.some.inj h
    subst hQ
    exact g_vret C hr hlk dX0_linkFacets_109 [0, 1, 2, 3, 4, 5] rfl (by decide)
  · replace h := it_f c4 h
    refine g_iconst C 0 dX0_linkFacets_18 (by decide) ?_
    refine g_istore C dX0_linkFacets_19 (by decide) [(4, .int 0), (0, .ref a0), (1, .ref a1), (2, .ref a2), (3, .int v3.1)] rfl ?_
    refine g_lv [1, 2, 3, 4, 0] [(0, .ref a0), (1, .ref a1), (2, .ref a2), (3, .int v3.1), (4, .int 0)] rfl ?_
    refine g_loop (lvf := fun v6 => [(0, .ref a0), (1, .ref a1), (2, .ref a2), (3, .int v3.1), (4, .int v6.1)]) (wsf := fun v6 => [(a0, .inr (0, [.ref a0_nextTo, .int (q0_size r1)])), (a0_nextTo, .inl (zI Z, 10, .inl v6.2)), (a1, .inr (2, [.ref a1_sets, .int (q2_points o1), .int (q2_facets o1)])), (a1_sets, .inl (zI Z, 10, .inl (q2_sets o1))), (a2, .inr (3, [.ref a2_closed, .ref a2_ranks, .ref a2_numbers, .ref a2_sets, .ref a2_rankSizes, .int (q3_size o2), .ref a2_tally, .int (q3_points o2), .int (q3_all o2)])), (a2_closed, .inl (zI Z, 256, .inl (q3_closed o2)))]) h (fun v6 y2 h hk2 hx2 => ?_)
    refine g_eq (lv1 := [(0, .ref a0), (1, .ref a1), (2, .ref a2), (3, .int v3.1), (4, .int v6.1)]) (st1 := []) (ws1 := [(a0, .inr (0, [.ref a0_nextTo, .int (q0_size r1)])), (a0_nextTo, .inl (zI Z, 10, .inl v6.2)), (a1, .inr (2, [.ref a1_sets, .int (q2_points o1), .int (q2_facets o1)])), (a1_sets, .inl (zI Z, 10, .inl (q2_sets o1))), (a2, .inr (3, [.ref a2_closed, .ref a2_ranks, .ref a2_numbers, .ref a2_sets, .ref a2_rankSizes, .int (q3_size o2), .ref a2_tally, .int (q3_points o2), .int (q3_all o2)])), (a2_closed, .inl (zI Z, 256, .inl (q3_closed o2)))]) rfl rfl rfl rfl ?_
    unfold fX0_linkFacets_L21 at h
    refine g_iload C dX0_linkFacets_21 4 rfl ?_
    refine g_iload_n C dX0_linkFacets_23 rfl 3 rfl ?_
    refine g_icmp_ge C 103 dX0_linkFacets_24 (by decide) (fun c7 => ?_) (fun c7 => ?_)
    · replace h := it_t c7 h
      obtain ⟨r8, h, hy⟩ := ex_of h
      rw [hx2 r8 hy] at h
      refine g_iinc C (v3.1 + 1) dX0_linkFacets_103 3 rfl rfl (by decide) [(3, .int (v3.1 + 1)), (0, .ref a0), (1, .ref a1), (2, .ref a2), (4, .int v6.1)] rfl ?_
      refine g_goto C 10 dX0_linkFacets_106 (by decide) ?_
      refine g_lv [1, 2, 3, 0] [(0, .ref a0), (1, .ref a1), (2, .ref a2), (3, .int (v3.1 + 1))] rfl ?_
      exact hk1 ((v3.1 + 1), v6.2) (Option.some.inj h).symm
    · replace h := it_f c7 h
      refine g_aload_n C dX0_linkFacets_27 rfl 1 rfl ?_
      refine g_get C 2 41 gin2 2 rfl rfl 0 (by decide) mw_1_70 rfl rfl dX0_linkFacets_28 ?_
      refine g_iload_n C dX0_linkFacets_31 rfl 3 rfl ?_
      obtain ⟨hi9, h⟩ := ck_of h
      refine g_iald C 3 rfl hi9 dX0_linkFacets_32 ?_
      refine g_aload_n C dX0_linkFacets_33 rfl 1 rfl ?_
      refine g_get C 2 41 gin2 2 rfl rfl 0 (by decide) mw_1_70 rfl rfl dX0_linkFacets_34 ?_
      refine g_iload C dX0_linkFacets_37 4 rfl ?_
      obtain ⟨hi10, h⟩ := ck_of h
      refine g_iald C 3 rfl hi10 dX0_linkFacets_39 ?_
      refine g_iand C dX0_linkFacets_40 ?_
      refine g_istore C dX0_linkFacets_41 (by decide) [(5, .int (((q2_sets o1) (ix v3.1)) &&& ((q2_sets o1) (ix v6.1)))), (0, .ref a0), (1, .ref a1), (2, .ref a2), (3, .int v3.1), (4, .int v6.1)] rfl ?_
      refine g_aload_n C dX0_linkFacets_43 rfl 2 rfl ?_
      refine g_get C 2 41 gin2 2 rfl rfl 0 (by decide) mw_1_70 rfl rfl dX0_linkFacets_44 ?_
      refine g_iload_n C dX0_linkFacets_47 rfl 4 rfl ?_
      obtain ⟨hi11, h⟩ := ck_of h
      refine g_iald C 3 rfl hi11 dX0_linkFacets_48 ?_
      refine g_aload_n C dX0_linkFacets_49 rfl 2 rfl ?_
      refine g_get C 2 41 gin2 2 rfl rfl 0 (by decide) mw_1_70 rfl rfl dX0_linkFacets_50 ?_
      refine g_iload C dX0_linkFacets_53 5 rfl ?_
      obtain ⟨hi12, h⟩ := ck_of h
      refine g_iald C 3 rfl hi12 dX0_linkFacets_55 ?_
      refine g_icmp_eq C 97 dX0_linkFacets_56 (by decide) (fun c13 => ?_) (fun c13 => ?_)
      · replace h := it_t c13 h
        refine g_iinc C (v6.1 + 1) dX0_linkFacets_97 5 rfl rfl (by decide) [(4, .int (v6.1 + 1)), (5, .int (((q2_sets o1) (ix v3.1)) &&& ((q2_sets o1) (ix v6.1)))), (0, .ref a0), (1, .ref a1), (2, .ref a2), (3, .int v3.1)] rfl ?_
        refine g_goto C 21 dX0_linkFacets_100 (by decide) ?_
        refine g_lv [2, 3, 4, 5, 0] [(0, .ref a0), (1, .ref a1), (2, .ref a2), (3, .int v3.1), (4, .int (v6.1 + 1))] rfl ?_
        exact hk2 ((v6.1 + 1), v6.2) (Option.some.inj h).symm
      · replace h := it_f c13 h
        refine g_aload_n C dX0_linkFacets_59 rfl 3 rfl ?_
        refine g_iload C dX0_linkFacets_60 0 rfl ?_
        refine g_aload_n C dX0_linkFacets_62 rfl 2 rfl ?_
        refine g_get C 2 41 gin2 2 rfl rfl 0 (by decide) mw_1_70 rfl rfl dX0_linkFacets_63 ?_
        refine g_iload_n C dX0_linkFacets_66 rfl 4 rfl ?_
        obtain ⟨hi14, h⟩ := ck_of h
        refine g_iald C 3 rfl hi14 dX0_linkFacets_67 ?_
        obtain ⟨r15, hr16, h⟩ := bd_of h
        refine g_callVi C (kX3_isCover l Z a2 a2_closed a2_ranks a2_numbers a2_sets a2_rankSizes a2_tally o2 (((q2_sets o1) (ix v3.1)) &&& ((q2_sets o1) (ix v6.1))) ((q2_sets o1) (ix v3.1)) r15 hr16) 0 rfl (ci := 3) rfl rfl myX3_isCover 44 mw_4_230 rfl [4, 5] [0, 1, 2, 3] [0, 1, 2, 3, 4, 5] (wr := [(a0, .inr (0, [.ref a0_nextTo, .int (q0_size r1)])), (a0_nextTo, .inl (zI Z, 10, .inl v6.2)), (a1, .inr (2, [.ref a1_sets, .int (q2_points o1), .int (q2_facets o1)])), (a1_sets, .inl (zI Z, 10, .inl (q2_sets o1)))]) rfl rfl (by decide) (by decide) (by decide) [(a0, .inr (0, [.ref a0_nextTo, .int (q0_size r1)])), (a0_nextTo, .inl (zI Z, 10, .inl v6.2)), (a1, .inr (2, [.ref a1_sets, .int (q2_points o1), .int (q2_facets o1)])), (a1_sets, .inl (zI Z, 10, .inl (q2_sets o1))), (a2, .inr (3, [.ref a2_closed, .ref a2_ranks, .ref a2_numbers, .ref a2_sets, .ref a2_rankSizes, .int (q3_size o2), .ref a2_tally, .int (q3_points o2), .int (q3_all o2)])), (a2_closed, .inl (zI Z, 256, .inl (q3_closed o2)))] rfl (by decide) (Nat.le_of_ble_eq_true rfl) (by rw [hR]; exact Nat.le_of_ble_eq_true rfl) (by rw [hR]; exact Nat.le_of_ble_eq_true rfl) ⟨by rw [hR]; exact Nat.le_of_ble_eq_true rfl, by rw [hR]; exact Nat.le_of_ble_eq_true rfl⟩ rfl dX0_linkFacets_68 ?_
        refine g_if_eq C 97 dX0_linkFacets_71 (by decide) (fun c17 => ?_) (fun c17 => ?_)
        · replace h := it_t c17 h
          refine g_iinc C (v6.1 + 1) dX0_linkFacets_97 5 rfl rfl (by decide) [(4, .int (v6.1 + 1)), (5, .int (((q2_sets o1) (ix v3.1)) &&& ((q2_sets o1) (ix v6.1)))), (0, .ref a0), (1, .ref a1), (2, .ref a2), (3, .int v3.1)] rfl ?_
          refine g_goto C 21 dX0_linkFacets_100 (by decide) ?_
          refine g_lv [2, 3, 4, 5, 0] [(0, .ref a0), (1, .ref a1), (2, .ref a2), (3, .int v3.1), (4, .int (v6.1 + 1))] rfl ?_
          exact hk2 ((v6.1 + 1), v6.2) (Option.some.inj h).symm
        · replace h := it_f c17 h
          refine g_aload_n C dX0_linkFacets_74 rfl 3 rfl ?_
          refine g_iload C dX0_linkFacets_75 0 rfl ?_
          refine g_aload_n C dX0_linkFacets_77 rfl 2 rfl ?_
          refine g_get C 2 41 gin2 2 rfl rfl 0 (by decide) mw_1_70 rfl rfl dX0_linkFacets_78 ?_
          refine g_iload C dX0_linkFacets_81 5 rfl ?_
          obtain ⟨hi18, h⟩ := ck_of h
          refine g_iald C 3 rfl hi18 dX0_linkFacets_83 ?_
          obtain ⟨r19, hr20, h⟩ := bd_of h
          refine g_callVi C (kX3_isCover l Z a2 a2_closed a2_ranks a2_numbers a2_sets a2_rankSizes a2_tally o2 (((q2_sets o1) (ix v3.1)) &&& ((q2_sets o1) (ix v6.1))) ((q2_sets o1) (ix v6.1)) r19 hr20) 0 rfl (ci := 3) rfl rfl myX3_isCover 44 mw_4_230 rfl [4, 5] [0, 1, 2, 3] [0, 1, 2, 3, 4, 5] (wr := [(a0, .inr (0, [.ref a0_nextTo, .int (q0_size r1)])), (a0_nextTo, .inl (zI Z, 10, .inl v6.2)), (a1, .inr (2, [.ref a1_sets, .int (q2_points o1), .int (q2_facets o1)])), (a1_sets, .inl (zI Z, 10, .inl (q2_sets o1)))]) rfl rfl (by decide) (by decide) (by decide) [(a0, .inr (0, [.ref a0_nextTo, .int (q0_size r1)])), (a0_nextTo, .inl (zI Z, 10, .inl v6.2)), (a1, .inr (2, [.ref a1_sets, .int (q2_points o1), .int (q2_facets o1)])), (a1_sets, .inl (zI Z, 10, .inl (q2_sets o1))), (a2, .inr (3, [.ref a2_closed, .ref a2_ranks, .ref a2_numbers, .ref a2_sets, .ref a2_rankSizes, .int (q3_size o2), .ref a2_tally, .int (q3_points o2), .int (q3_all o2)])), (a2_closed, .inl (zI Z, 256, .inl (q3_closed o2)))] rfl (by decide) (Nat.le_of_ble_eq_true rfl) (by rw [hR]; exact Nat.le_of_ble_eq_true rfl) (by rw [hR]; exact Nat.le_of_ble_eq_true rfl) ⟨by rw [hR]; exact Nat.le_of_ble_eq_true rfl, by rw [hR]; exact Nat.le_of_ble_eq_true rfl⟩ rfl dX0_linkFacets_84 ?_
          refine g_if_eq C 97 dX0_linkFacets_87 (by decide) (fun c21 => ?_) (fun c21 => ?_)
          · replace h := it_t c21 h
            refine g_iinc C (v6.1 + 1) dX0_linkFacets_97 5 rfl rfl (by decide) [(4, .int (v6.1 + 1)), (5, .int (((q2_sets o1) (ix v3.1)) &&& ((q2_sets o1) (ix v6.1)))), (0, .ref a0), (1, .ref a1), (2, .ref a2), (3, .int v3.1)] rfl ?_
            refine g_goto C 21 dX0_linkFacets_100 (by decide) ?_
            refine g_lv [2, 3, 4, 5, 0] [(0, .ref a0), (1, .ref a1), (2, .ref a2), (3, .int v3.1), (4, .int (v6.1 + 1))] rfl ?_
            exact hk2 ((v6.1 + 1), v6.2) (Option.some.inj h).symm
          · replace h := it_f c21 h
            refine g_aload_n C dX0_linkFacets_90 rfl 1 rfl ?_
            refine g_iload_n C dX0_linkFacets_91 rfl 4 rfl ?_
            refine g_iload C dX0_linkFacets_92 5 rfl ?_
            obtain ⟨r22, hr23, h⟩ := bd_of h
            refine g_callVv C (kX0_link l Z a0 a0_nextTo (s0_nextTo r1 v6.2) v3.1 v6.1 r22 hr23) 0 rfl (ci := 0) rfl rfl myX0_link 34 mw_4_63 rfl [0, 1] [2, 3, 4, 5] [4, 5, 0, 1, 2, 3] (wr := [(a1, .inr (2, [.ref a1_sets, .int (q2_points o1), .int (q2_facets o1)])), (a1_sets, .inl (zI Z, 10, .inl (q2_sets o1))), (a2, .inr (3, [.ref a2_closed, .ref a2_ranks, .ref a2_numbers, .ref a2_sets, .ref a2_rankSizes, .int (q3_size o2), .ref a2_tally, .int (q3_points o2), .int (q3_all o2)])), (a2_closed, .inl (zI Z, 256, .inl (q3_closed o2)))]) rfl rfl (by decide) (by decide) (by decide) [(a0, .inr (0, [.ref a0_nextTo, .int (q0_size r1)])), (a0_nextTo, .inl (zI Z, 10, .inl (q0_nextTo r22))), (a1, .inr (2, [.ref a1_sets, .int (q2_points o1), .int (q2_facets o1)])), (a1_sets, .inl (zI Z, 10, .inl (q2_sets o1))), (a2, .inr (3, [.ref a2_closed, .ref a2_ranks, .ref a2_numbers, .ref a2_sets, .ref a2_rankSizes, .int (q3_size o2), .ref a2_tally, .int (q3_points o2), .int (q3_all o2)])), (a2_closed, .inl (zI Z, 256, .inl (q3_closed o2)))] rfl (by decide) (Nat.le_of_ble_eq_true rfl) (by rw [hR]; exact Nat.le_of_ble_eq_true rfl) (by rw [hR]; exact Nat.le_of_ble_eq_true rfl) ⟨by rw [hR]; exact Nat.le_of_ble_eq_true rfl, by rw [hR]; exact Nat.le_of_ble_eq_true rfl⟩ rfl dX0_linkFacets_94 ?_
            refine g_iinc C (v6.1 + 1) dX0_linkFacets_97 5 rfl rfl (by decide) [(4, .int (v6.1 + 1)), (5, .int (((q2_sets o1) (ix v3.1)) &&& ((q2_sets o1) (ix v6.1)))), (0, .ref a0), (1, .ref a1), (2, .ref a2), (3, .int v3.1)] rfl ?_
            refine g_goto C 21 dX0_linkFacets_100 (by decide) ?_
            refine g_lv [2, 3, 4, 5, 0] [(0, .ref a0), (1, .ref a1), (2, .ref a2), (3, .int v3.1), (4, .int (v6.1 + 1))] rfl ?_
            exact hk2 ((v6.1 + 1), (q0_nextTo r22)) (Option.some.inj h).symm
def fX0_firstStep_L12 (o0 : OX0) (p1 : Int32) (p2 : Int32) (r1 : Int32) (v3 : Int32) : Option ((Int32) ⊕ (Int32)) :=
  if (q0_size o0) ≤ v3 then (ex (some (-1)))
  else (if (r1 - 1) < 0 then (ex (some (-1)))
  else (ck (okI p1 10) (if ((jshr ((q0_nextTo o0) (ix p1)) v3) &&& 1) = 1 then ((fX0_length o0 v3 p2).bind fun r10 =>
  (if r10 = (r1 - 1) then (ex (some v3))
  else (some (.inl (v3 + 1)))))
  else (some (.inl (v3 + 1))))))
def fX0_firstStep (o0 : OX0) (p1 : Int32) (p2 : Int32) : Option (Int32) :=
  (fX0_length o0 p1 p2).bind fun r1 =>
  (lp (fX0_firstStep_L12 o0 p1 p2 r1) lpN 0)
theorem myX0_firstStep : MYv yX0_firstStep cX0_firstStep 5 (some .int) 2 := ⟨mw_5_15, mw_5_16, mw_5_17, mw_1_6, ⟨by decide +kernel, by decide +kernel⟩, by decide +kernel⟩
set_option maxRecDepth 100000 in
set_option maxHeartbeats 4000000 in
theorem kX0_firstStep (l : Launch) (Z : GZ) (a0 a0_nextTo : Nat) (o0 : OX0) (p1 : Int32) (p2 : Int32) (res : Int32) (h : fX0_firstStep o0 p1 p2 = some res) : MI l Z yX0_firstStep cX0_firstStep 5 .int 2 47 [.ref a0, .int p1, .int p2] [(a0, .inr (0, [.ref a0_nextTo, .int (q0_size o0)])), (a0_nextTo, .inl (zI Z, 10, .inl (q0_nextTo o0)))] res [(a0, .inr (0, [.ref a0_nextTo, .int (q0_size o0)])), (a0_nextTo, .inl (zI Z, 10, .inl (q0_nextTo o0)))] := by
  refine MI_of (by decide +kernel) (Nat.le_of_ble_eq_true rfl) (fun {p e s m args below meth c} A R hR Q hQ C hr hlk => ?_)
  unfold fX0_firstStep at h
  refine g_lv [0, 1, 2] [(0, .ref a0), (1, .int p1), (2, .int p2)] rfl ?_
  refine g_aload_n C dX0_firstStep_0 rfl 0 rfl ?_
  refine g_iload_n C dX0_firstStep_1 rfl 1 rfl ?_
  refine g_iload_n C dX0_firstStep_2 rfl 2 rfl ?_
  obtain ⟨r1, hr2, h⟩ := bd_of h
  refine g_callVi C (kX0_length l Z a0 a0_nextTo o0 p1 p2 r1 hr2) 0 rfl (ci := 0) rfl rfl myX0_length 58 mw_5_18 rfl [0, 1] [] [0, 1] (wr := []) rfl rfl (by decide) (by decide) (by decide) [(a0, .inr (0, [.ref a0_nextTo, .int (q0_size o0)])), (a0_nextTo, .inl (zI Z, 10, .inl (q0_nextTo o0)))] rfl (by decide) (Nat.le_of_ble_eq_true rfl) (by rw [hR]; exact Nat.le_of_ble_eq_true rfl) (by rw [hR]; exact Nat.le_of_ble_eq_true rfl) ⟨by rw [hR]; exact Nat.le_of_ble_eq_true rfl, by rw [hR]; exact Nat.le_of_ble_eq_true rfl⟩ rfl dX0_firstStep_3 ?_
  refine g_iconst C 1 dX0_firstStep_6 (by decide) ?_
  refine g_isub C dX0_firstStep_7 ?_
  refine g_istore_n C dX0_firstStep_8 rfl (by decide) [(3, .int (r1 - 1)), (0, .ref a0), (1, .int p1), (2, .int p2)] rfl ?_
  refine g_iconst C 0 dX0_firstStep_9 (by decide) ?_
  refine g_istore C dX0_firstStep_10 (by decide) [(4, .int 0), (3, .int (r1 - 1)), (0, .ref a0), (1, .int p1), (2, .int p2)] rfl ?_
  refine g_lv [2, 3, 4, 1, 0] [(0, .ref a0), (1, .int p1), (2, .int p2), (3, .int (r1 - 1)), (4, .int 0)] rfl ?_
  refine g_loop (lvf := fun v3 => [(0, .ref a0), (1, .int p1), (2, .int p2), (3, .int (r1 - 1)), (4, .int v3)]) (wsf := fun v3 => [(a0, .inr (0, [.ref a0_nextTo, .int (q0_size o0)])), (a0_nextTo, .inl (zI Z, 10, .inl (q0_nextTo o0)))]) h (fun v3 y1 h hk1 hx1 => ?_)
  refine g_eq (lv1 := [(0, .ref a0), (1, .int p1), (2, .int p2), (3, .int (r1 - 1)), (4, .int v3)]) (st1 := []) (ws1 := [(a0, .inr (0, [.ref a0_nextTo, .int (q0_size o0)])), (a0_nextTo, .inl (zI Z, 10, .inl (q0_nextTo o0)))]) rfl rfl rfl rfl ?_
  unfold fX0_firstStep_L12 at h
  refine g_iload C dX0_firstStep_12 4 rfl ?_
  refine g_aload_n C dX0_firstStep_14 rfl 0 rfl ?_
  refine g_get C 0 15 gin0 0 rfl rfl 1 (by decide) mw_1_150 rfl rfl dX0_firstStep_15 ?_
  refine g_icmp_ge C 60 dX0_firstStep_18 (by decide) (fun c4 => ?_) (fun c4 => ?_)
  · replace h := it_t c4 h
    obtain ⟨r5, h, hy⟩ := ex_of h
    rw [hx1 r5 hy] at h
    refine g_iconst C (-1) dX0_firstStep_60 (by decide) ?_
    obtain rfl := Option.some.inj h
    subst hQ
    exact g_iret C rfl hr hlk dX0_firstStep_61 [0, 1] rfl (by decide)
  · replace h := it_f c4 h
    refine g_iload_n C dX0_firstStep_21 rfl 3 rfl ?_
    refine g_if_lt C 60 dX0_firstStep_22 (by decide) (fun c6 => ?_) (fun c6 => ?_)
    · replace h := it_t c6 h
      obtain ⟨r7, h, hy⟩ := ex_of h
      rw [hx1 r7 hy] at h
      refine g_iconst C (-1) dX0_firstStep_60 (by decide) ?_
      obtain rfl := Option.some.inj h
      subst hQ
      exact g_iret C rfl hr hlk dX0_firstStep_61 [0, 1] rfl (by decide)
    · replace h := it_f c6 h
      refine g_aload_n C dX0_firstStep_25 rfl 0 rfl ?_
      refine g_get C 0 9 gin0 0 rfl rfl 0 (by decide) mw_1_148 rfl rfl dX0_firstStep_26 ?_
      refine g_iload_n C dX0_firstStep_29 rfl 1 rfl ?_
      obtain ⟨hi8, h⟩ := ck_of h
      refine g_iald C 1 rfl hi8 dX0_firstStep_30 ?_
      refine g_iload C dX0_firstStep_31 4 rfl ?_
      refine g_ishr C dX0_firstStep_33 ?_
      refine g_iconst C 1 dX0_firstStep_34 (by decide) ?_
      refine g_iand C dX0_firstStep_35 ?_
      refine g_iconst C 1 dX0_firstStep_36 (by decide) ?_
      refine g_icmp_ne C 54 dX0_firstStep_37 (by decide) (fun c9 => ?_) (fun c9 => ?_)
      · replace h := it_f c9 h
        refine g_iinc C (v3 + 1) dX0_firstStep_54 4 rfl rfl (by decide) [(4, .int (v3 + 1)), (0, .ref a0), (1, .int p1), (2, .int p2), (3, .int (r1 - 1))] rfl ?_
        refine g_goto C 12 dX0_firstStep_57 (by decide) ?_
        refine g_lv [1, 2, 3, 4, 0] [(0, .ref a0), (1, .int p1), (2, .int p2), (3, .int (r1 - 1)), (4, .int (v3 + 1))] rfl ?_
        exact hk1 (v3 + 1) (Option.some.inj h).symm
      · replace h := it_t c9 h
        refine g_aload_n C dX0_firstStep_40 rfl 0 rfl ?_
        refine g_iload C dX0_firstStep_41 4 rfl ?_
        refine g_iload_n C dX0_firstStep_43 rfl 2 rfl ?_
        obtain ⟨r10, hr11, h⟩ := bd_of h
        refine g_callVi C (kX0_length l Z a0 a0_nextTo o0 v3 p2 r10 hr11) 0 rfl (ci := 0) rfl rfl myX0_length 58 mw_5_18 rfl [0, 1] [] [0, 1] (wr := []) rfl rfl (by decide) (by decide) (by decide) [(a0, .inr (0, [.ref a0_nextTo, .int (q0_size o0)])), (a0_nextTo, .inl (zI Z, 10, .inl (q0_nextTo o0)))] rfl (by decide) (Nat.le_of_ble_eq_true rfl) (by rw [hR]; exact Nat.le_of_ble_eq_true rfl) (by rw [hR]; exact Nat.le_of_ble_eq_true rfl) ⟨by rw [hR]; exact Nat.le_of_ble_eq_true rfl, by rw [hR]; exact Nat.le_of_ble_eq_true rfl⟩ rfl dX0_firstStep_44 ?_
        refine g_iload_n C dX0_firstStep_47 rfl 3 rfl ?_
        refine g_icmp_ne C 54 dX0_firstStep_48 (by decide) (fun c12 => ?_) (fun c12 => ?_)
        · replace h := it_f c12 h
          refine g_iinc C (v3 + 1) dX0_firstStep_54 4 rfl rfl (by decide) [(4, .int (v3 + 1)), (0, .ref a0), (1, .int p1), (2, .int p2), (3, .int (r1 - 1))] rfl ?_
          refine g_goto C 12 dX0_firstStep_57 (by decide) ?_
          refine g_lv [1, 2, 3, 4, 0] [(0, .ref a0), (1, .int p1), (2, .int p2), (3, .int (r1 - 1)), (4, .int (v3 + 1))] rfl ?_
          exact hk1 (v3 + 1) (Option.some.inj h).symm
        · replace h := it_t c12 h
          obtain ⟨r13, h, hy⟩ := ex_of h
          rw [hx1 r13 hy] at h
          refine g_iload C dX0_firstStep_51 4 rfl ?_
          obtain rfl := Option.some.inj h
          subst hQ
          exact g_iret C rfl hr hlk dX0_firstStep_53 [0, 1] rfl (by decide)
def fX0_greatestLength_L25 (o0 : OX0) (v2 : Int32 × Int32) (v5 : Int32 × Int32) : Option ((Int32 × Int32) ⊕ ((Int32 × Int32) ⊕ (Int32))) :=
  if v2.2 ≤ v5.2 then (ex (some (.inl (v5.1, (v2.2 + 1)))))
  else ((fX0_length o0 v2.2 v5.2).bind fun r8 =>
  (if r8 = (-1) then (ex (ex (some (-1))))
  else (some (.inl ((jmax v5.1 r8), (v5.2 + 1))))))
def fX0_greatestLength_L15 (o0 : OX0) (v2 : Int32 × Int32) : Option ((Int32 × Int32) ⊕ (Int32)) :=
  if (q0_size o0) ≤ v2.2 then (ex (some v2.1))
  else (lp (fX0_greatestLength_L25 o0 v2) lpN (v2.1, 0))
def fX0_greatestLength_J12 (o0 : OX0) (x1 : Int32) : Option (Int32) :=
  lp (fX0_greatestLength_L15 o0) lpN (x1, 0)
def fX0_greatestLength (o0 : OX0) : Option (Int32) :=
  if (q0_size o0) ≤ 0 then (fX0_greatestLength_J12 o0 (-1))
  else (fX0_greatestLength_J12 o0 0)
theorem myX0_greatestLength : MYv yX0_greatestLength cX0_greatestLength 5 (some .int) 0 := ⟨mw_5_42, mw_5_43, mw_5_44, mw_1_6, ⟨by decide +kernel, by decide +kernel⟩, by decide +kernel⟩
set_option maxRecDepth 100000 in
set_option maxHeartbeats 4000000 in
theorem kX0_greatestLength (l : Launch) (Z : GZ) (a0 a0_nextTo : Nat) (o0 : OX0) (res : Int32) (h : fX0_greatestLength o0 = some res) : MI l Z yX0_greatestLength cX0_greatestLength 5 .int 2 47 [.ref a0] [(a0, .inr (0, [.ref a0_nextTo, .int (q0_size o0)])), (a0_nextTo, .inl (zI Z, 10, .inl (q0_nextTo o0)))] res [(a0, .inr (0, [.ref a0_nextTo, .int (q0_size o0)])), (a0_nextTo, .inl (zI Z, 10, .inl (q0_nextTo o0)))] := by
  refine MI_of (by decide +kernel) (Nat.le_of_ble_eq_true rfl) (fun {p e s m args below meth c} A R hR Q hQ C hr hlk => ?_)
  unfold fX0_greatestLength at h
  refine g_lv [0] [(0, .ref a0)] rfl ?_
  refine g_aload_n C dX0_greatestLength_0 rfl 0 rfl ?_
  refine g_get C 0 15 gin0 0 rfl rfl 1 (by decide) mw_1_150 rfl rfl dX0_greatestLength_1 ?_
  have hj12 : ∀ (x1 : Int32), fX0_greatestLength_J12 o0 x1 = some res → Gw p l e R s m args below meth c 5 Z A Q 0 0 12 [(0, .ref a0)] [.int x1] [(a0, .inr (0, [.ref a0_nextTo, .int (q0_size o0)])), (a0_nextTo, .inl (zI Z, 10, .inl (q0_nextTo o0)))] := by
    intro x1 h
    unfold fX0_greatestLength_J12 at h
    refine g_istore_n C dX0_greatestLength_12 rfl (by decide) [(1, .int x1), (0, .ref a0)] rfl ?_
    refine g_iconst C 0 dX0_greatestLength_13 (by decide) ?_
    refine g_istore_n C dX0_greatestLength_14 rfl (by decide) [(2, .int 0), (1, .int x1), (0, .ref a0)] rfl ?_
    refine g_lv [2, 1, 0] [(0, .ref a0), (1, .int x1), (2, .int 0)] rfl ?_
    refine g_loop (lvf := fun v2 => [(0, .ref a0), (1, .int v2.1), (2, .int v2.2)]) (wsf := fun v2 => [(a0, .inr (0, [.ref a0_nextTo, .int (q0_size o0)])), (a0_nextTo, .inl (zI Z, 10, .inl (q0_nextTo o0)))]) h (fun v2 y1 h hk1 hx1 => ?_)
    refine g_eq (lv1 := [(0, .ref a0), (1, .int v2.1), (2, .int v2.2)]) (st1 := []) (ws1 := [(a0, .inr (0, [.ref a0_nextTo, .int (q0_size o0)])), (a0_nextTo, .inl (zI Z, 10, .inl (q0_nextTo o0)))]) rfl rfl rfl rfl ?_
    unfold fX0_greatestLength_L15 at h
    refine g_iload_n C dX0_greatestLength_15 rfl 2 rfl ?_
    refine g_aload_n C dX0_greatestLength_16 rfl 0 rfl ?_
    refine g_get C 0 15 gin0 0 rfl rfl 1 (by decide) mw_1_150 rfl rfl dX0_greatestLength_17 ?_
    refine g_icmp_ge C 65 dX0_greatestLength_20 (by decide) (fun c3 => ?_) (fun c3 => ?_)
    · replace h := it_t c3 h
      obtain ⟨r4, h, hy⟩ := ex_of h
      rw [hx1 r4 hy] at h
      refine g_iload_n C dX0_greatestLength_65 rfl 1 rfl ?_
      obtain rfl := Option.some.inj h
      subst hQ
      exact g_iret C rfl hr hlk dX0_greatestLength_66 [0, 1] rfl (by decide)
    · replace h := it_f c3 h
      refine g_iconst C 0 dX0_greatestLength_23 (by decide) ?_
      refine g_istore_n C dX0_greatestLength_24 rfl (by decide) [(3, .int 0), (0, .ref a0), (1, .int v2.1), (2, .int v2.2)] rfl ?_
      refine g_lv [1, 2, 3, 0] [(0, .ref a0), (1, .int v2.1), (2, .int v2.2), (3, .int 0)] rfl ?_
      refine g_loop (lvf := fun v5 => [(0, .ref a0), (1, .int v5.1), (2, .int v2.2), (3, .int v5.2)]) (wsf := fun v5 => [(a0, .inr (0, [.ref a0_nextTo, .int (q0_size o0)])), (a0_nextTo, .inl (zI Z, 10, .inl (q0_nextTo o0)))]) h (fun v5 y2 h hk2 hx2 => ?_)
      refine g_eq (lv1 := [(0, .ref a0), (1, .int v5.1), (2, .int v2.2), (3, .int v5.2)]) (st1 := []) (ws1 := [(a0, .inr (0, [.ref a0_nextTo, .int (q0_size o0)])), (a0_nextTo, .inl (zI Z, 10, .inl (q0_nextTo o0)))]) rfl rfl rfl rfl ?_
      unfold fX0_greatestLength_L25 at h
      refine g_iload_n C dX0_greatestLength_25 rfl 3 rfl ?_
      refine g_iload_n C dX0_greatestLength_26 rfl 2 rfl ?_
      refine g_icmp_ge C 59 dX0_greatestLength_27 (by decide) (fun c6 => ?_) (fun c6 => ?_)
      · replace h := it_t c6 h
        obtain ⟨r7, h, hy⟩ := ex_of h
        rw [hx2 r7 hy] at h
        refine g_iinc C (v2.2 + 1) dX0_greatestLength_59 2 rfl rfl (by decide) [(2, .int (v2.2 + 1)), (0, .ref a0), (1, .int v5.1), (3, .int v5.2)] rfl ?_
        refine g_goto C 15 dX0_greatestLength_62 (by decide) ?_
        refine g_lv [1, 2, 0] [(0, .ref a0), (1, .int v5.1), (2, .int (v2.2 + 1))] rfl ?_
        exact hk1 (v5.1, (v2.2 + 1)) (Option.some.inj h).symm
      · replace h := it_f c6 h
        refine g_aload_n C dX0_greatestLength_30 rfl 0 rfl ?_
        refine g_iload_n C dX0_greatestLength_31 rfl 2 rfl ?_
        refine g_iload_n C dX0_greatestLength_32 rfl 3 rfl ?_
        obtain ⟨r8, hr9, h⟩ := bd_of h
        refine g_callVi C (kX0_length l Z a0 a0_nextTo o0 v2.2 v5.2 r8 hr9) 0 rfl (ci := 0) rfl rfl myX0_length 58 mw_5_18 rfl [0, 1] [] [0, 1] (wr := []) rfl rfl (by decide) (by decide) (by decide) [(a0, .inr (0, [.ref a0_nextTo, .int (q0_size o0)])), (a0_nextTo, .inl (zI Z, 10, .inl (q0_nextTo o0)))] rfl (by decide) (Nat.le_of_ble_eq_true rfl) (by rw [hR]; exact Nat.le_of_ble_eq_true rfl) (by rw [hR]; exact Nat.le_of_ble_eq_true rfl) ⟨by rw [hR]; exact Nat.le_of_ble_eq_true rfl, by rw [hR]; exact Nat.le_of_ble_eq_true rfl⟩ rfl dX0_greatestLength_33 ?_
        refine g_istore C dX0_greatestLength_36 (by decide) [(4, .int r8), (0, .ref a0), (1, .int v5.1), (2, .int v2.2), (3, .int v5.2)] rfl ?_
        refine g_iload C dX0_greatestLength_38 0 rfl ?_
        refine g_iconst C (-1) dX0_greatestLength_40 (by decide) ?_
        refine g_icmp_ne C 46 dX0_greatestLength_41 (by decide) (fun c10 => ?_) (fun c10 => ?_)
        · replace h := it_f c10 h
          refine g_iload_n C dX0_greatestLength_46 rfl 2 rfl ?_
          refine g_iload C dX0_greatestLength_47 0 rfl ?_
          refine g_mmax C 62 mw_5_45 mw_1_213 mw_1_8 mw_1_214 (by rw [hR]; exact Nat.le_of_ble_eq_true rfl) (by rw [hR]; exact Nat.le_of_ble_eq_true rfl) ⟨by rw [hR]; exact Nat.le_of_ble_eq_true rfl, by rw [hR]; exact Nat.le_of_ble_eq_true rfl⟩ dX0_greatestLength_49 ?_
          refine g_istore_n C dX0_greatestLength_52 rfl (by decide) [(1, .int (jmax v5.1 r8)), (4, .int r8), (0, .ref a0), (2, .int v2.2), (3, .int v5.2)] rfl ?_
          refine g_iinc C (v5.2 + 1) dX0_greatestLength_53 4 rfl rfl (by decide) [(3, .int (v5.2 + 1)), (1, .int (jmax v5.1 r8)), (4, .int r8), (0, .ref a0), (2, .int v2.2)] rfl ?_
          refine g_goto C 25 dX0_greatestLength_56 (by decide) ?_
          refine g_lv [3, 1, 4, 0] [(0, .ref a0), (1, .int (jmax v5.1 r8)), (2, .int v2.2), (3, .int (v5.2 + 1))] rfl ?_
          exact hk2 ((jmax v5.1 r8), (v5.2 + 1)) (Option.some.inj h).symm
        · replace h := it_t c10 h
          obtain ⟨r11, h, hy⟩ := ex_of h
          rw [hx2 r11 hy] at h
          obtain ⟨r12, h, hy⟩ := ex_of h
          rw [hx1 r12 hy] at h
          refine g_iconst C (-1) dX0_greatestLength_44 (by decide) ?_
          obtain rfl := Option.some.inj h
          subst hQ
          exact g_iret C rfl hr hlk dX0_greatestLength_45 [0, 1] rfl (by decide)
  refine g_if_le C 11 dX0_greatestLength_4 (by decide) (fun c13 => ?_) (fun c13 => ?_)
  · replace h := it_t c13 h
    refine g_iconst C (-1) dX0_greatestLength_11 (by decide) ?_
    exact hj12 (-1) h
  · replace h := it_f c13 h
    refine g_iconst C 0 dX0_greatestLength_7 (by decide) ?_
    refine g_goto C 12 dX0_greatestLength_8 (by decide) ?_
    exact hj12 0 h

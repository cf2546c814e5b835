def fX2_copyFrom (o0 : OX2) (o1 : OX2) : Option (OX2) :=
  some (s2_facets (s2_points (s2_sets o0 (va_cpy (q2_sets o1) (q2_sets o0) 0 0 10)) (q2_points o1)) (q2_facets o1))
theorem myX2_copyFrom : MYv yX2_copyFrom cX2_copyFrom 2 none 1 := ⟨mw_2_134, mw_2_135, mw_2_136, mw_1_4, ⟨by decide +kernel, by decide +kernel⟩, by decide +kernel⟩
set_option maxRecDepth 100000 in
set_option maxHeartbeats 4000000 in
theorem kX2_copyFrom (l : Launch) (Z : GZ) (a0 a0_sets a1 a1_sets : Nat) (o0 : OX2) (o1 : OX2) (res : OX2) (h : fX2_copyFrom o0 o1 = some res) : MV l Z yX2_copyFrom cX2_copyFrom 2 1 40 [.ref a0, .ref a1] [(a0, .inr (2, [.ref a0_sets, .int (q2_points o0), .int (q2_facets o0)])), (a0_sets, .inl (zI Z, 10, .inl (q2_sets o0))), (a1, .inr (2, [.ref a1_sets, .int (q2_points o1), .int (q2_facets o1)])), (a1_sets, .inl (zI Z, 10, .inl (q2_sets o1)))] [(a0, .inr (2, [.ref a0_sets, .int (q2_points res), .int (q2_facets res)])), (a0_sets, .inl (zI Z, 10, .inl (q2_sets res))), (a1, .inr (2, [.ref a1_sets, .int (q2_points o1), .int (q2_facets o1)])), (a1_sets, .inl (zI Z, 10, .inl (q2_sets o1)))] := by
  refine MV_of (by decide +kernel) (Nat.le_of_ble_eq_true rfl) (fun {p e s m args below meth c} A R hR Q hQ C hr hlk => ?_)
  unfold fX2_copyFrom at h
  refine g_lv [0, 1] [(0, .ref a0), (1, .ref a1)] rfl ?_
  refine g_aload_n C dX2_copyFrom_0 rfl 0 rfl ?_
  refine g_aload_n C dX2_copyFrom_1 rfl 1 rfl ?_
  refine g_get C 2 15 gin2 2 rfl rfl 1 (by decide) mw_1_73 rfl rfl dX2_copyFrom_2 ?_
  refine g_put C 2 15 gin2 tyX2 tyX2_ok nmX2 0 rfl rfl 1 (by decide) mw_1_73 rfl rfl (ty := .int) (by decide +kernel) rfl rfl (Nat.le_of_ble_eq_true rfl) [(a0, .inr (2, [.ref a0_sets, .int (q2_points o1), .int (q2_facets o0)])), (a0_sets, .inl (zI Z, 10, .inl (q2_sets o0))), (a1, .inr (2, [.ref a1_sets, .int (q2_points o1), .int (q2_facets o1)])), (a1_sets, .inl (zI Z, 10, .inl (q2_sets o1)))] rfl dX2_copyFrom_5 ?_
  refine g_aload_n C dX2_copyFrom_8 rfl 0 rfl ?_
  refine g_aload_n C dX2_copyFrom_9 rfl 1 rfl ?_
  refine g_get C 2 19 gin2 2 rfl rfl 2 (by decide) mw_1_79 rfl rfl dX2_copyFrom_10 ?_
  refine g_put C 2 19 gin2 tyX2 tyX2_ok nmX2 0 rfl rfl 2 (by decide) mw_1_79 rfl rfl (ty := .int) (by decide +kernel) rfl rfl (Nat.le_of_ble_eq_true rfl) [(a0, .inr (2, [.ref a0_sets, .int (q2_points o1), .int (q2_facets o1)])), (a0_sets, .inl (zI Z, 10, .inl (q2_sets o0))), (a1, .inr (2, [.ref a1_sets, .int (q2_points o1), .int (q2_facets o1)])), (a1_sets, .inl (zI Z, 10, .inl (q2_sets o1)))] rfl dX2_copyFrom_13 ?_
  refine g_aload_n C dX2_copyFrom_16 rfl 1 rfl ?_
  refine g_get C 2 9 gin2 2 rfl rfl 0 (by decide) mw_1_69 rfl rfl dX2_copyFrom_17 ?_
  refine g_iconst C 0 dX2_copyFrom_20 (by decide) ?_
  refine g_aload_n C dX2_copyFrom_21 rfl 0 rfl ?_
  refine g_get C 2 9 gin2 0 rfl rfl 0 (by decide) mw_1_69 rfl rfl dX2_copyFrom_22 ?_
  refine g_iconst C 0 dX2_copyFrom_25 (by decide) ?_
  refine g_bipush C 10 dX2_copyFrom_26 (by decide) ?_
  refine g_copyi C 22 mw_2_137 mw_2_139 mw_2_138 mw_1_19 3 1 rfl rfl (by decide) (by decide) (by decide) (by decide) (by decide) (by rw [hR]; exact Nat.le_of_ble_eq_true rfl) (by rw [hR]; exact Nat.le_of_ble_eq_true rfl) [(a0, .inr (2, [.ref a0_sets, .int (q2_points o1), .int (q2_facets o1)])), (a0_sets, .inl (zI Z, 10, .inl (va_cpy (q2_sets o1) (q2_sets o0) 0 0 10))), (a1, .inr (2, [.ref a1_sets, .int (q2_points o1), .int (q2_facets o1)])), (a1_sets, .inl (zI Z, 10, .inl (q2_sets o1)))] rfl dX2_copyFrom_28 ?_
  obtain rfl := Option.some.inj h
  subst hQ
  exact g_vret C hr hlk dX2_copyFrom_31 [0, 1, 2, 3] rfl (by decide)
def fX2_clear (o0 : OX2) (p1 : Int32) : Option (OX2) :=
  some (s2_facets (s2_points o0 p1) 0)
theorem myX2_clear : MYv yX2_clear cX2_clear 2 none 1 := ⟨mw_2_102, mw_2_103, mw_2_104, mw_1_4, ⟨by decide +kernel, by decide +kernel⟩, by decide +kernel⟩
set_option maxRecDepth 100000 in
set_option maxHeartbeats 4000000 in
theorem kX2_clear (l : Launch) (Z : GZ) (a0 a0_sets : Nat) (o0 : OX2) (p1 : Int32) (res : OX2) (h : fX2_clear o0 p1 = some res) : MV l Z yX2_clear cX2_clear 2 0 0 [.ref a0, .int p1] [(a0, .inr (2, [.ref a0_sets, .int (q2_points o0), .int (q2_facets o0)]))] [(a0, .inr (2, [.ref a0_sets, .int (q2_points res), .int (q2_facets res)]))] := by
  refine MV_of (by decide +kernel) (Nat.le_of_ble_eq_true rfl) (fun {p e s m args below meth c} A R hR Q hQ C hr hlk => ?_)
  unfold fX2_clear at h
  refine g_lv [0, 1] [(0, .ref a0), (1, .int p1)] rfl ?_
  refine g_aload_n C dX2_clear_0 rfl 0 rfl ?_
  refine g_iload_n C dX2_clear_1 rfl 1 rfl ?_
  refine g_put C 2 15 gin2 tyX2 tyX2_ok nmX2 0 rfl rfl 1 (by decide) mw_1_73 rfl rfl (ty := .int) (by decide +kernel) rfl rfl (Nat.le_of_ble_eq_true rfl) [(a0, .inr (2, [.ref a0_sets, .int p1, .int (q2_facets o0)]))] rfl dX2_clear_2 ?_
  refine g_aload_n C dX2_clear_5 rfl 0 rfl ?_
  refine g_iconst C 0 dX2_clear_6 (by decide) ?_
  refine g_put C 2 19 gin2 tyX2 tyX2_ok nmX2 0 rfl rfl 2 (by decide) mw_1_79 rfl rfl (ty := .int) (by decide +kernel) rfl rfl (Nat.le_of_ble_eq_true rfl) [(a0, .inr (2, [.ref a0_sets, .int p1, .int 0]))] rfl dX2_clear_7 ?_
  obtain rfl := Option.some.inj h
  subst hQ
  exact g_vret C hr hlk dX2_clear_10 [0] rfl (by decide)
def fX2_add (o0 : OX2) (p1 : Int32) : Option (OX2) :=
  if 10 ≤ (q2_facets o0) then (some o0)
  else (ck (okI (q2_facets o0) 10) (some (s2_facets (s2_sets o0 (upd (q2_sets o0) (ix (q2_facets o0)) p1)) ((q2_facets o0) + 1))))
theorem myX2_add : MYv yX2_add cX2_add 2 none 1 := ⟨mw_2_107, mw_2_108, mw_2_109, mw_1_4, ⟨by decide +kernel, by decide +kernel⟩, by decide +kernel⟩
set_option maxRecDepth 100000 in
set_option maxHeartbeats 4000000 in
theorem kX2_add (l : Launch) (Z : GZ) (a0 a0_sets : Nat) (o0 : OX2) (p1 : Int32) (res : OX2) (h : fX2_add o0 p1 = some res) : MV l Z yX2_add cX2_add 2 0 0 [.ref a0, .int p1] [(a0, .inr (2, [.ref a0_sets, .int (q2_points o0), .int (q2_facets o0)])), (a0_sets, .inl (zI Z, 10, .inl (q2_sets o0)))] [(a0, .inr (2, [.ref a0_sets, .int (q2_points o0), .int (q2_facets res)])), (a0_sets, .inl (zI Z, 10, .inl (q2_sets res)))] := by
  refine MV_of (by decide +kernel) (Nat.le_of_ble_eq_true rfl) (fun {p e s m args below meth c} A R hR Q hQ C hr hlk => ?_)
  unfold fX2_add at h
  refine g_lv [0, 1] [(0, .ref a0), (1, .int p1)] rfl ?_
  refine g_aload_n C dX2_add_0 rfl 0 rfl ?_
  refine g_get C 2 19 gin2 0 rfl rfl 2 (by decide) mw_1_79 rfl rfl dX2_add_1 ?_
  refine g_bipush C 10 dX2_add_4 (by decide) ?_
  refine g_icmp_ge C 29 dX2_add_6 (by decide) (fun c1 => ?_) (fun c1 => ?_)
  · replace h := it_t c1 h
    obtain rfl := Option.some.inj h
    subst hQ
    exact g_vret C hr hlk dX2_add_29 [0, 1] rfl (by decide)
  · replace h := it_f c1 h
    refine g_aload_n C dX2_add_9 rfl 0 rfl ?_
    refine g_get C 2 9 gin2 0 rfl rfl 0 (by decide) mw_1_69 rfl rfl dX2_add_10 ?_
    refine g_aload_n C dX2_add_13 rfl 0 rfl ?_
    refine g_get C 2 19 gin2 0 rfl rfl 2 (by decide) mw_1_79 rfl rfl dX2_add_14 ?_
    refine g_iload_n C dX2_add_17 rfl 1 rfl ?_
    obtain ⟨hi2, h⟩ := ck_of h
    refine g_iast C 1 rfl hi2 [(a0, .inr (2, [.ref a0_sets, .int (q2_points o0), .int (q2_facets o0)])), (a0_sets, .inl (zI Z, 10, .inl (upd (q2_sets o0) (ix (q2_facets o0)) p1)))] rfl dX2_add_18 ?_
    refine g_aload_n C dX2_add_19 rfl 0 rfl ?_
    refine g_dup C dX2_add_20 rfl ?_
    refine g_get C 2 19 gin2 0 rfl rfl 2 (by decide) mw_1_79 rfl rfl dX2_add_21 ?_
    refine g_iconst C 1 dX2_add_24 (by decide) ?_
    refine g_iadd C dX2_add_25 ?_
    refine g_put C 2 19 gin2 tyX2 tyX2_ok nmX2 0 rfl rfl 2 (by decide) mw_1_79 rfl rfl (ty := .int) (by decide +kernel) rfl rfl (Nat.le_of_ble_eq_true rfl) [(a0, .inr (2, [.ref a0_sets, .int (q2_points o0), .int ((q2_facets o0) + 1)])), (a0_sets, .inl (zI Z, 10, .inl (upd (q2_sets o0) (ix (q2_facets o0)) p1)))] rfl dX2_add_26 ?_
    obtain rfl := Option.some.inj h
    subst hQ
    exact g_vret C hr hlk dX2_add_29 [0, 1] rfl (by decide)
def fX2_remove_L2 (o0 : OX2) (v1 : Int32 × (Nat → Int32)) : Option ((Int32 × (Nat → Int32)) ⊕ (OX2)) :=
  if (q2_facets o0) ≤ (v1.1 + 1) then (ex (some (s2_facets (s2_sets o0 v1.2) ((q2_facets o0) - 1))))
  else (ck (okI (v1.1 + 1) 10) (ck (okI v1.1 10) (some (.inl ((v1.1 + 1), (upd v1.2 (ix v1.1) (v1.2 (ix (v1.1 + 1)))))))))
def fX2_remove (o0 : OX2) (p1 : Int32) : Option (OX2) :=
  lp (fX2_remove_L2 o0) lpN (p1, (q2_sets o0))
theorem myX2_remove : MYv yX2_remove cX2_remove 3 none 1 := ⟨mw_4_5, mw_4_6, mw_4_7, mw_1_4, ⟨by decide +kernel, by decide +kernel⟩, by decide +kernel⟩
set_option maxRecDepth 100000 in
set_option maxHeartbeats 4000000 in
theorem kX2_remove (l : Launch) (Z : GZ) (a0 a0_sets : Nat) (o0 : OX2) (p1 : Int32) (res : OX2) (h : fX2_remove o0 p1 = some res) : MV l Z yX2_remove cX2_remove 3 0 0 [.ref a0, .int p1] [(a0, .inr (2, [.ref a0_sets, .int (q2_points o0), .int (q2_facets o0)])), (a0_sets, .inl (zI Z, 10, .inl (q2_sets o0)))] [(a0, .inr (2, [.ref a0_sets, .int (q2_points o0), .int (q2_facets res)])), (a0_sets, .inl (zI Z, 10, .inl (q2_sets res)))] := by
  refine MV_of (by decide +kernel) (Nat.le_of_ble_eq_true rfl) (fun {p e s m args below meth c} A R hR Q hQ C hr hlk => ?_)
  unfold fX2_remove at h
  refine g_lv [0, 1] [(0, .ref a0), (1, .int p1)] rfl ?_
  refine g_iload_n C dX2_remove_0 rfl 1 rfl ?_
  refine g_istore_n C dX2_remove_1 rfl (by decide) [(2, .int p1), (0, .ref a0), (1, .int p1)] rfl ?_
  refine g_lv [1, 0] [(0, .ref a0), (2, .int p1)] rfl ?_
  refine g_loop (lvf := fun v1 => [(0, .ref a0), (2, .int v1.1)]) (wsf := fun v1 => [(a0, .inr (2, [.ref a0_sets, .int (q2_points o0), .int (q2_facets o0)])), (a0_sets, .inl (zI Z, 10, .inl v1.2))]) h (fun v1 y1 h hk1 hx1 => ?_)
  refine g_eq (lv1 := [(0, .ref a0), (2, .int v1.1)]) (st1 := []) (ws1 := [(a0, .inr (2, [.ref a0_sets, .int (q2_points o0), .int (q2_facets o0)])), (a0_sets, .inl (zI Z, 10, .inl v1.2))]) rfl rfl rfl rfl ?_
  unfold fX2_remove_L2 at h
  refine g_iload_n C dX2_remove_2 rfl 1 rfl ?_
  refine g_iconst C 1 dX2_remove_3 (by decide) ?_
  refine g_iadd C dX2_remove_4 ?_
  refine g_aload_n C dX2_remove_5 rfl 0 rfl ?_
  refine g_get C 2 19 gin2 0 rfl rfl 2 (by decide) mw_1_79 rfl rfl dX2_remove_6 ?_
  refine g_icmp_ge C 32 dX2_remove_9 (by decide) (fun c2 => ?_) (fun c2 => ?_)
  · replace h := it_t c2 h
    obtain ⟨r3, h, hy⟩ := ex_of h
    rw [hx1 r3 hy] at h
    refine g_aload_n C dX2_remove_32 rfl 0 rfl ?_
    refine g_dup C dX2_remove_33 rfl ?_
    refine g_get C 2 19 gin2 0 rfl rfl 2 (by decide) mw_1_79 rfl rfl dX2_remove_34 ?_
    refine g_iconst C 1 dX2_remove_37 (by decide) ?_
    refine g_isub C dX2_remove_38 ?_
    refine g_put C 2 19 gin2 tyX2 tyX2_ok nmX2 0 rfl rfl 2 (by decide) mw_1_79 rfl rfl (ty := .int) (by decide +kernel) rfl rfl (Nat.le_of_ble_eq_true rfl) [(a0, .inr (2, [.ref a0_sets, .int (q2_points o0), .int ((q2_facets o0) - 1)])), (a0_sets, .inl (zI Z, 10, .inl v1.2))] rfl dX2_remove_39 ?_
    obtain rfl := Option.some.inj h
    subst hQ
    exact g_vret C hr hlk dX2_remove_42 [0, 1] rfl (by decide)
  · replace h := it_f c2 h
    refine g_aload_n C dX2_remove_12 rfl 0 rfl ?_
    refine g_get C 2 9 gin2 0 rfl rfl 0 (by decide) mw_1_69 rfl rfl dX2_remove_13 ?_
    refine g_iload_n C dX2_remove_16 rfl 1 rfl ?_
    refine g_aload_n C dX2_remove_17 rfl 0 rfl ?_
    refine g_get C 2 9 gin2 0 rfl rfl 0 (by decide) mw_1_69 rfl rfl dX2_remove_18 ?_
    refine g_iload_n C dX2_remove_21 rfl 1 rfl ?_
    refine g_iconst C 1 dX2_remove_22 (by decide) ?_
    refine g_iadd C dX2_remove_23 ?_
    obtain ⟨hi4, h⟩ := ck_of h
    refine g_iald C 1 rfl hi4 dX2_remove_24 ?_
    obtain ⟨hi5, h⟩ := ck_of h
    refine g_iast C 1 rfl hi5 [(a0, .inr (2, [.ref a0_sets, .int (q2_points o0), .int (q2_facets o0)])), (a0_sets, .inl (zI Z, 10, .inl (upd v1.2 (ix v1.1) (v1.2 (ix (v1.1 + 1))))))] rfl dX2_remove_25 ?_
    refine g_iinc C (v1.1 + 1) dX2_remove_26 1 rfl rfl (by decide) [(2, .int (v1.1 + 1)), (0, .ref a0)] rfl ?_
    refine g_goto C 2 dX2_remove_29 (by decide) ?_
    refine g_lv [1, 0] [(0, .ref a0), (2, .int (v1.1 + 1))] rfl ?_
    exact hk1 ((v1.1 + 1), (upd v1.2 (ix v1.1) (v1.2 (ix (v1.1 + 1))))) (Option.some.inj h).symm
def fX2_has (o0 : OX2) (p1 : Int32) (p2 : Int32) : Option (Int32) :=
  ck (okI p1 10) (if ((jshr ((q2_sets o0) (ix p1)) p2) &&& 1) = 1 then (some 1)
  else (some 0))
theorem myX2_has : MYv yX2_has cX2_has 3 (some .boolean) 2 := ⟨mw_3_37, mw_3_38, mw_3_39, mw_1_4, ⟨by decide +kernel, by decide +kernel⟩, by decide +kernel⟩
set_option maxRecDepth 100000 in
set_option maxHeartbeats 4000000 in
theorem kX2_has (l : Launch) (Z : GZ) (a0 a0_sets : Nat) (o0 : OX2) (p1 : Int32) (p2 : Int32) (res : Int32) (h : fX2_has o0 p1 p2 = some res) : MI l Z yX2_has cX2_has 3 .boolean 0 0 [.ref a0, .int p1, .int p2] [(a0, .inr (2, [.ref a0_sets, .int (q2_points o0), .int (q2_facets o0)])), (a0_sets, .inl (zI Z, 10, .inl (q2_sets o0)))] res [(a0, .inr (2, [.ref a0_sets, .int (q2_points o0), .int (q2_facets o0)])), (a0_sets, .inl (zI Z, 10, .inl (q2_sets o0)))] := by
  refine MI_of (by decide +kernel) (Nat.le_of_ble_eq_true rfl) (fun {p e s m args below meth c} A R hR Q hQ C hr hlk => ?_)
  unfold fX2_has at h
  refine g_lv [0, 1, 2] [(0, .ref a0), (1, .int p1), (2, .int p2)] rfl ?_
  refine g_aload_n C dX2_has_0 rfl 0 rfl ?_
  refine g_get C 2 9 gin2 0 rfl rfl 0 (by decide) mw_1_69 rfl rfl dX2_has_1 ?_
  refine g_iload_n C dX2_has_4 rfl 1 rfl ?_
  obtain ⟨hi1, h⟩ := ck_of h
  refine g_iald C 1 rfl hi1 dX2_has_5 ?_
  refine g_iload_n C dX2_has_6 rfl 2 rfl ?_
  refine g_ishr C dX2_has_7 ?_
  refine g_iconst C 1 dX2_has_8 (by decide) ?_
  refine g_iand C dX2_has_9 ?_
  refine g_iconst C 1 dX2_has_10 (by decide) ?_
  refine g_icmp_ne C 18 dX2_has_11 (by decide) (fun c2 => ?_) (fun c2 => ?_)
  · replace h := it_f c2 h
    refine g_iconst C 0 dX2_has_18 (by decide) ?_
    obtain rfl := Option.some.inj h
    subst hQ
    exact g_zret C rfl (Or.inl rfl) hr hlk dX2_has_19 [0, 1] rfl (by decide)
  · replace h := it_t c2 h
    refine g_iconst C 1 dX2_has_14 (by decide) ?_
    refine g_goto C 19 dX2_has_15 (by decide) ?_
    obtain rfl := Option.some.inj h
    subst hQ
    exact g_zret C rfl (Or.inr rfl) hr hlk dX2_has_19 [0, 1] rfl (by decide)
def fX2_put (o0 : OX2) (p1 : Int32) (p2 : Int32) (p3 : Int32) : Option (OX2) :=
  if p3 = 0 then (ck (okI p1 10) (ck (okI p1 10) (some (s2_sets o0 (upd (q2_sets o0) (ix p1) (((q2_sets o0) (ix p1)) &&& ((jshl 1 p2) ^^^ (-1))))))))
  else (ck (okI p1 10) (ck (okI p1 10) (some (s2_sets o0 (upd (q2_sets o0) (ix p1) (((q2_sets o0) (ix p1)) ||| (jshl 1 p2)))))))
theorem myX2_put : MYv yX2_put cX2_put 5 none 3 := ⟨mw_3_213, mw_3_214, mw_3_215, mw_1_4, ⟨by decide +kernel, by decide +kernel⟩, by decide +kernel⟩
set_option maxRecDepth 100000 in
set_option maxHeartbeats 4000000 in
theorem kX2_put (l : Launch) (Z : GZ) (a0 a0_sets : Nat) (o0 : OX2) (p1 : Int32) (p2 : Int32) (p3 : Int32) (res : OX2) (h : fX2_put o0 p1 p2 p3 = some res) : MV l Z yX2_put cX2_put 5 0 0 [.ref a0, .int p1, .int p2, .int p3] [(a0, .inr (2, [.ref a0_sets, .int (q2_points o0), .int (q2_facets o0)])), (a0_sets, .inl (zI Z, 10, .inl (q2_sets o0)))] [(a0, .inr (2, [.ref a0_sets, .int (q2_points o0), .int (q2_facets o0)])), (a0_sets, .inl (zI Z, 10, .inl (q2_sets res)))] := by
  refine MV_of (by decide +kernel) (Nat.le_of_ble_eq_true rfl) (fun {p e s m args below meth c} A R hR Q hQ C hr hlk => ?_)
  unfold fX2_put at h
  refine g_lv [0, 1, 2, 3] [(0, .ref a0), (1, .int p1), (2, .int p2), (3, .int p3)] rfl ?_
  refine g_iconst C 1 dX2_put_0 (by decide) ?_
  refine g_iload_n C dX2_put_1 rfl 2 rfl ?_
  refine g_ishl C dX2_put_2 ?_
  refine g_istore C dX2_put_3 (by decide) [(4, .int (jshl 1 p2)), (0, .ref a0), (1, .int p1), (2, .int p2), (3, .int p3)] rfl ?_
  refine g_aload_n C dX2_put_5 rfl 1 rfl ?_
  refine g_get C 2 9 gin2 0 rfl rfl 0 (by decide) mw_1_69 rfl rfl dX2_put_6 ?_
  refine g_iload_n C dX2_put_9 rfl 2 rfl ?_
  refine g_iload_n C dX2_put_10 rfl 4 rfl ?_
  refine g_if_eq C 26 dX2_put_11 (by decide) (fun c1 => ?_) (fun c1 => ?_)
  · replace h := it_t c1 h
    refine g_aload_n C dX2_put_26 rfl 1 rfl ?_
    refine g_get C 2 9 gin2 0 rfl rfl 0 (by decide) mw_1_69 rfl rfl dX2_put_27 ?_
    refine g_iload_n C dX2_put_30 rfl 2 rfl ?_
    obtain ⟨hi2, h⟩ := ck_of h
    refine g_iald C 1 rfl hi2 dX2_put_31 ?_
    refine g_iload C dX2_put_32 0 rfl ?_
    refine g_iconst C (-1) dX2_put_34 (by decide) ?_
    refine g_ixor C dX2_put_35 ?_
    refine g_iand C dX2_put_36 ?_
    obtain ⟨hi3, h⟩ := ck_of h
    refine g_iast C 1 rfl hi3 [(a0, .inr (2, [.ref a0_sets, .int (q2_points o0), .int (q2_facets o0)])), (a0_sets, .inl (zI Z, 10, .inl (upd (q2_sets o0) (ix p1) (((q2_sets o0) (ix p1)) &&& ((jshl 1 p2) ^^^ (-1))))))] rfl dX2_put_37 ?_
    obtain rfl := Option.some.inj h
    subst hQ
    exact g_vret C hr hlk dX2_put_38 [0, 1] rfl (by decide)
  · replace h := it_f c1 h
    refine g_aload_n C dX2_put_14 rfl 1 rfl ?_
    refine g_get C 2 9 gin2 0 rfl rfl 0 (by decide) mw_1_69 rfl rfl dX2_put_15 ?_
    refine g_iload_n C dX2_put_18 rfl 2 rfl ?_
    obtain ⟨hi4, h⟩ := ck_of h
    refine g_iald C 1 rfl hi4 dX2_put_19 ?_
    refine g_iload C dX2_put_20 0 rfl ?_
    refine g_ior C dX2_put_22 ?_
    refine g_goto C 37 dX2_put_23 (by decide) ?_
    obtain ⟨hi5, h⟩ := ck_of h
    refine g_iast C 1 rfl hi5 [(a0, .inr (2, [.ref a0_sets, .int (q2_points o0), .int (q2_facets o0)])), (a0_sets, .inl (zI Z, 10, .inl (upd (q2_sets o0) (ix p1) (((q2_sets o0) (ix p1)) ||| (jshl 1 p2)))))] rfl dX2_put_37 ?_
    obtain rfl := Option.some.inj h
    subst hQ
    exact g_vret C hr hlk dX2_put_38 [0, 1] rfl (by decide)
def fX2_allPoints (o0 : OX2) : Option (Int32) :=
  some ((jshl 1 (q2_points o0)) - 1)
theorem myX2_allPoints : MYv yX2_allPoints cX2_allPoints 1 (some .int) 0 := ⟨mw_1_196, mw_1_197, mw_1_198, mw_1_4, ⟨by decide +kernel, by decide +kernel⟩, by decide +kernel⟩
set_option maxRecDepth 100000 in
set_option maxHeartbeats 4000000 in
theorem kX2_allPoints (l : Launch) (Z : GZ) (a0 a0_sets : Nat) (o0 : OX2) (res : Int32) (h : fX2_allPoints o0 = some res) : MI l Z yX2_allPoints cX2_allPoints 1 .int 0 0 [.ref a0] [(a0, .inr (2, [.ref a0_sets, .int (q2_points o0), .int (q2_facets o0)]))] res [(a0, .inr (2, [.ref a0_sets, .int (q2_points o0), .int (q2_facets o0)]))] := by
  refine MI_of (by decide +kernel) (Nat.le_of_ble_eq_true rfl) (fun {p e s m args below meth c} A R hR Q hQ C hr hlk => ?_)
  unfold fX2_allPoints at h
  refine g_lv [0] [(0, .ref a0)] rfl ?_
  refine g_iconst C 1 dX2_allPoints_0 (by decide) ?_
  refine g_aload_n C dX2_allPoints_1 rfl 0 rfl ?_
  refine g_get C 2 15 gin2 0 rfl rfl 1 (by decide) mw_1_73 rfl rfl dX2_allPoints_2 ?_
  refine g_ishl C dX2_allPoints_5 ?_
  refine g_iconst C 1 dX2_allPoints_6 (by decide) ?_
  refine g_isub C dX2_allPoints_7 ?_
  obtain rfl := Option.some.inj h
  subst hQ
  exact g_iret C rfl hr hlk dX2_allPoints_8 [0] rfl (by decide)
def fX2_isSet (o0 : OX2) (p1 : Int32) : Option (Int32) :=
  (fX2_allPoints o0).bind fun r1 =>
  (if (p1 &&& (r1 ^^^ (-1))) = 0 then (some 1)
  else (some 0))
theorem myX2_isSet : MYv yX2_isSet cX2_isSet 2 (some .boolean) 1 := ⟨mw_2_157, mw_2_158, mw_2_159, mw_1_4, ⟨by decide +kernel, by decide +kernel⟩, by decide +kernel⟩
set_option maxRecDepth 100000 in
set_option maxHeartbeats 4000000 in
theorem kX2_isSet (l : Launch) (Z : GZ) (a0 a0_sets : Nat) (o0 : OX2) (p1 : Int32) (res : Int32) (h : fX2_isSet o0 p1 = some res) : MI l Z yX2_isSet cX2_isSet 2 .boolean 1 20 [.ref a0, .int p1] [(a0, .inr (2, [.ref a0_sets, .int (q2_points o0), .int (q2_facets o0)]))] res [(a0, .inr (2, [.ref a0_sets, .int (q2_points o0), .int (q2_facets o0)]))] := by
  refine MI_of (by decide +kernel) (Nat.le_of_ble_eq_true rfl) (fun {p e s m args below meth c} A R hR Q hQ C hr hlk => ?_)
  unfold fX2_isSet at h
  refine g_lv [0, 1] [(0, .ref a0), (1, .int p1)] rfl ?_
  refine g_iload_n C dX2_isSet_0 rfl 1 rfl ?_
  refine g_aload_n C dX2_isSet_1 rfl 0 rfl ?_
  obtain ⟨r1, hr2, h⟩ := bd_of h
  refine g_callVi C (kX2_allPoints l Z a0 a0_sets o0 r1 hr2) 0 rfl (ci := 2) rfl rfl myX2_allPoints 28 mw_1_203 rfl [0] [] [0] (wr := []) rfl rfl (by decide) (by decide) (by decide) [(a0, .inr (2, [.ref a0_sets, .int (q2_points o0), .int (q2_facets o0)]))] rfl (by decide) (Nat.le_of_ble_eq_true rfl) (by rw [hR]; exact Nat.le_of_ble_eq_true rfl) (by rw [hR]; exact Nat.le_of_ble_eq_true rfl) ⟨by rw [hR]; exact Nat.le_of_ble_eq_true rfl, by rw [hR]; exact Nat.le_of_ble_eq_true rfl⟩ rfl dX2_isSet_2 ?_
  refine g_iconst C (-1) dX2_isSet_5 (by decide) ?_
  refine g_ixor C dX2_isSet_6 ?_
  refine g_iand C dX2_isSet_7 ?_
  refine g_if_ne C 15 dX2_isSet_8 (by decide) (fun c3 => ?_) (fun c3 => ?_)
  · replace h := it_f c3 h
    refine g_iconst C 0 dX2_isSet_15 (by decide) ?_
    obtain rfl := Option.some.inj h
    subst hQ
    exact g_zret C rfl (Or.inl rfl) hr hlk dX2_isSet_16 [0] rfl (by decide)
  · replace h := it_t c3 h
    refine g_iconst C 1 dX2_isSet_11 (by decide) ?_
    refine g_goto C 16 dX2_isSet_12 (by decide) ?_
    obtain rfl := Option.some.inj h
    subst hQ
    exact g_zret C rfl (Or.inr rfl) hr hlk dX2_isSet_16 [0] rfl (by decide)
def fX2_holders_L4 (o0 : OX2) (p1 : Int32) (v1 : Int32 × Int32) : Option ((Int32 × Int32) ⊕ (Int32)) :=
  if (q2_facets o0) ≤ v1.2 then (ex (some v1.1))
  else ((fX2_has o0 v1.2 p1).bind fun r4 =>
  (if r4 = 0 then (some (.inl (v1.1, (v1.2 + 1))))
  else (some (.inl ((v1.1 ||| (jshl 1 v1.2)), (v1.2 + 1))))))
def fX2_holders (o0 : OX2) (p1 : Int32) : Option (Int32) :=
  lp (fX2_holders_L4 o0 p1) lpN (0, 0)
theorem myX2_holders : MYv yX2_holders cX2_holders 4 (some .int) 1 := ⟨mw_4_17, mw_4_18, mw_4_19, mw_1_4, ⟨by decide +kernel, by decide +kernel⟩, by decide +kernel⟩
set_option maxRecDepth 100000 in
set_option maxHeartbeats 4000000 in
theorem kX2_holders (l : Launch) (Z : GZ) (a0 a0_sets : Nat) (o0 : OX2) (p1 : Int32) (res : Int32) (h : fX2_holders o0 p1 = some res) : MI l Z yX2_holders cX2_holders 4 .int 1 22 [.ref a0, .int p1] [(a0, .inr (2, [.ref a0_sets, .int (q2_points o0), .int (q2_facets o0)])), (a0_sets, .inl (zI Z, 10, .inl (q2_sets o0)))] res [(a0, .inr (2, [.ref a0_sets, .int (q2_points o0), .int (q2_facets o0)])), (a0_sets, .inl (zI Z, 10, .inl (q2_sets o0)))] := by
  refine MI_of (by decide +kernel) (Nat.le_of_ble_eq_true rfl) (fun {p e s m args below meth c} A R hR Q hQ C hr hlk => ?_)
  unfold fX2_holders at h
  refine g_lv [0, 1] [(0, .ref a0), (1, .int p1)] rfl ?_
  refine g_iconst C 0 dX2_holders_0 (by decide) ?_
  refine g_istore_n C dX2_holders_1 rfl (by decide) [(2, .int 0), (0, .ref a0), (1, .int p1)] rfl ?_
  refine g_iconst C 0 dX2_holders_2 (by decide) ?_
  refine g_istore_n C dX2_holders_3 rfl (by decide) [(3, .int 0), (2, .int 0), (0, .ref a0), (1, .int p1)] rfl ?_
  refine g_lv [2, 3, 1, 0] [(0, .ref a0), (1, .int p1), (2, .int 0), (3, .int 0)] rfl ?_
  refine g_loop (lvf := fun v1 => [(0, .ref a0), (1, .int p1), (2, .int v1.1), (3, .int v1.2)]) (wsf := fun v1 => [(a0, .inr (2, [.ref a0_sets, .int (q2_points o0), .int (q2_facets o0)])), (a0_sets, .inl (zI Z, 10, .inl (q2_sets o0)))]) h (fun v1 y1 h hk1 hx1 => ?_)
  refine g_eq (lv1 := [(0, .ref a0), (1, .int p1), (2, .int v1.1), (3, .int v1.2)]) (st1 := []) (ws1 := [(a0, .inr (2, [.ref a0_sets, .int (q2_points o0), .int (q2_facets o0)])), (a0_sets, .inl (zI Z, 10, .inl (q2_sets o0)))]) rfl rfl rfl rfl ?_
  unfold fX2_holders_L4 at h
  refine g_iload_n C dX2_holders_4 rfl 3 rfl ?_
  refine g_aload_n C dX2_holders_5 rfl 0 rfl ?_
  refine g_get C 2 19 gin2 0 rfl rfl 2 (by decide) mw_1_79 rfl rfl dX2_holders_6 ?_
  refine g_icmp_ge C 33 dX2_holders_9 (by decide) (fun c2 => ?_) (fun c2 => ?_)
  · replace h := it_t c2 h
    obtain ⟨r3, h, hy⟩ := ex_of h
    rw [hx1 r3 hy] at h
    refine g_iload_n C dX2_holders_33 rfl 2 rfl ?_
    obtain rfl := Option.some.inj h
    subst hQ
    exact g_iret C rfl hr hlk dX2_holders_34 [0, 1] rfl (by decide)
  · replace h := it_f c2 h
    refine g_aload_n C dX2_holders_12 rfl 0 rfl ?_
    refine g_iload_n C dX2_holders_13 rfl 3 rfl ?_
    refine g_iload_n C dX2_holders_14 rfl 1 rfl ?_
    obtain ⟨r4, hr5, h⟩ := bd_of h
    refine g_callVi C (kX2_has l Z a0 a0_sets o0 v1.2 p1 r4 hr5) 0 rfl (ci := 2) rfl rfl myX2_has 32 mw_4_20 rfl [0, 1] [] [0, 1] (wr := []) rfl rfl (by decide) (by decide) (by decide) [(a0, .inr (2, [.ref a0_sets, .int (q2_points o0), .int (q2_facets o0)])), (a0_sets, .inl (zI Z, 10, .inl (q2_sets o0)))] rfl (by decide) (Nat.le_of_ble_eq_true rfl) (by rw [hR]; exact Nat.le_of_ble_eq_true rfl) (by rw [hR]; exact Nat.le_of_ble_eq_true rfl) ⟨by rw [hR]; exact Nat.le_of_ble_eq_true rfl, by rw [hR]; exact Nat.le_of_ble_eq_true rfl⟩ rfl dX2_holders_15 ?_
    refine g_if_eq C 27 dX2_holders_18 (by decide) (fun c6 => ?_) (fun c6 => ?_)
    · replace h := it_t c6 h
      refine g_iinc C (v1.2 + 1) dX2_holders_27 3 rfl rfl (by decide) [(3, .int (v1.2 + 1)), (0, .ref a0), (1, .int p1), (2, .int v1.1)] rfl ?_
      refine g_goto C 4 dX2_holders_30 (by decide) ?_
      refine g_lv [1, 2, 3, 0] [(0, .ref a0), (1, .int p1), (2, .int v1.1), (3, .int (v1.2 + 1))] rfl ?_
      exact hk1 (v1.1, (v1.2 + 1)) (Option.some.inj h).symm
    · replace h := it_f c6 h
      refine g_iload_n C dX2_holders_21 rfl 2 rfl ?_
      refine g_iconst C 1 dX2_holders_22 (by decide) ?_
      refine g_iload_n C dX2_holders_23 rfl 3 rfl ?_
      refine g_ishl C dX2_holders_24 ?_
      refine g_ior C dX2_holders_25 ?_
      refine g_istore_n C dX2_holders_26 rfl (by decide) [(2, .int (v1.1 ||| (jshl 1 v1.2))), (0, .ref a0), (1, .int p1), (3, .int v1.2)] rfl ?_
      refine g_iinc C (v1.2 + 1) dX2_holders_27 3 rfl rfl (by decide) [(3, .int (v1.2 + 1)), (2, .int (v1.1 ||| (jshl 1 v1.2))), (0, .ref a0), (1, .int p1)] rfl ?_
      refine g_goto C 4 dX2_holders_30 (by decide) ?_
      refine g_lv [2, 3, 1, 0] [(0, .ref a0), (1, .int p1), (2, .int (v1.1 ||| (jshl 1 v1.2))), (3, .int (v1.2 + 1))] rfl ?_
      exact hk1 ((v1.1 ||| (jshl 1 v1.2)), (v1.2 + 1)) (Option.some.inj h).symm
def fX2_closureOf_L7 (o0 : OX2) (p1 : Int32) (v3 : Int32 × Int32) : Option ((Int32 × Int32) ⊕ (Int32)) :=
  if (q2_facets o0) ≤ v3.2 then (ex (some v3.1))
  else (ck (okI v3.2 10) (if (p1 &&& (((q2_sets o0) (ix v3.2)) ^^^ (-1))) = 0 then (ck (okI v3.2 10) (some (.inl ((v3.1 &&& ((q2_sets o0) (ix v3.2))), (v3.2 + 1)))))
  else (some (.inl (v3.1, (v3.2 + 1))))))
def fX2_closureOf (o0 : OX2) (p1 : Int32) : Option (Int32) :=
  (fX2_allPoints o0).bind fun r1 =>
  (lp (fX2_closureOf_L7 o0 p1) lpN (r1, 0))
theorem myX2_closureOf : MYv yX2_closureOf cX2_closureOf 4 (some .int) 1 := ⟨mw_1_200, mw_1_201, mw_1_202, mw_1_4, ⟨by decide +kernel, by decide +kernel⟩, by decide +kernel⟩
set_option maxRecDepth 100000 in
set_option maxHeartbeats 4000000 in
theorem kX2_closureOf (l : Launch) (Z : GZ) (a0 a0_sets : Nat) (o0 : OX2) (p1 : Int32) (res : Int32) (h : fX2_closureOf o0 p1 = some res) : MI l Z yX2_closureOf cX2_closureOf 4 .int 1 20 [.ref a0, .int p1] [(a0, .inr (2, [.ref a0_sets, .int (q2_points o0), .int (q2_facets o0)])), (a0_sets, .inl (zI Z, 10, .inl (q2_sets o0)))] res [(a0, .inr (2, [.ref a0_sets, .int (q2_points o0), .int (q2_facets o0)])), (a0_sets, .inl (zI Z, 10, .inl (q2_sets o0)))] := by
  refine MI_of (by decide +kernel) (Nat.le_of_ble_eq_true rfl) (fun {p e s m args below meth c} A R hR Q hQ C hr hlk => ?_)
  unfold fX2_closureOf at h
  refine g_lv [0, 1] [(0, .ref a0), (1, .int p1)] rfl ?_
  refine g_aload_n C dX2_closureOf_0 rfl 0 rfl ?_
  obtain ⟨r1, hr2, h⟩ := bd_of h
  refine g_callVi C (kX2_allPoints l Z a0 a0_sets o0 r1 hr2) 0 rfl (ci := 2) rfl rfl myX2_allPoints 28 mw_1_203 rfl [0] [1] [1, 0] (wr := [(a0_sets, .inl (zI Z, 10, .inl (q2_sets o0)))]) rfl rfl (by decide) (by decide) (by decide) [(a0, .inr (2, [.ref a0_sets, .int (q2_points o0), .int (q2_facets o0)])), (a0_sets, .inl (zI Z, 10, .inl (q2_sets o0)))] rfl (by decide) (Nat.le_of_ble_eq_true rfl) (by rw [hR]; exact Nat.le_of_ble_eq_true rfl) (by rw [hR]; exact Nat.le_of_ble_eq_true rfl) ⟨by rw [hR]; exact Nat.le_of_ble_eq_true rfl, by rw [hR]; exact Nat.le_of_ble_eq_true rfl⟩ rfl dX2_closureOf_1 ?_
  refine g_istore_n C dX2_closureOf_4 rfl (by decide) [(2, .int r1), (0, .ref a0), (1, .int p1)] rfl ?_
  refine g_iconst C 0 dX2_closureOf_5 (by decide) ?_
  refine g_istore_n C dX2_closureOf_6 rfl (by decide) [(3, .int 0), (2, .int r1), (0, .ref a0), (1, .int p1)] rfl ?_
  refine g_lv [2, 3, 1, 0] [(0, .ref a0), (1, .int p1), (2, .int r1), (3, .int 0)] rfl ?_
  refine g_loop (lvf := fun v3 => [(0, .ref a0), (1, .int p1), (2, .int v3.1), (3, .int v3.2)]) (wsf := fun v3 => [(a0, .inr (2, [.ref a0_sets, .int (q2_points o0), .int (q2_facets o0)])), (a0_sets, .inl (zI Z, 10, .inl (q2_sets o0)))]) h (fun v3 y1 h hk1 hx1 => ?_)
  refine g_eq (lv1 := [(0, .ref a0), (1, .int p1), (2, .int v3.1), (3, .int v3.2)]) (st1 := []) (ws1 := [(a0, .inr (2, [.ref a0_sets, .int (q2_points o0), .int (q2_facets o0)])), (a0_sets, .inl (zI Z, 10, .inl (q2_sets o0)))]) rfl rfl rfl rfl ?_
  unfold fX2_closureOf_L7 at h
  refine g_iload_n C dX2_closureOf_7 rfl 3 rfl ?_
  refine g_aload_n C dX2_closureOf_8 rfl 0 rfl ?_
  refine g_get C 2 19 gin2 0 rfl rfl 2 (by decide) mw_1_79 rfl rfl dX2_closureOf_9 ?_
  refine g_icmp_ge C 43 dX2_closureOf_12 (by decide) (fun c4 => ?_) (fun c4 => ?_)
  · replace h := it_t c4 h
    obtain ⟨r5, h, hy⟩ := ex_of h
    rw [hx1 r5 hy] at h
    refine g_iload_n C dX2_closureOf_43 rfl 2 rfl ?_
    obtain rfl := Option.some.inj h
    subst hQ
    exact g_iret C rfl hr hlk dX2_closureOf_44 [0, 1] rfl (by decide)
  · replace h := it_f c4 h
    refine g_iload_n C dX2_closureOf_15 rfl 1 rfl ?_
    refine g_aload_n C dX2_closureOf_16 rfl 0 rfl ?_
    refine g_get C 2 9 gin2 0 rfl rfl 0 (by decide) mw_1_69 rfl rfl dX2_closureOf_17 ?_
    refine g_iload_n C dX2_closureOf_20 rfl 3 rfl ?_
    obtain ⟨hi6, h⟩ := ck_of h
    refine g_iald C 1 rfl hi6 dX2_closureOf_21 ?_
    refine g_iconst C (-1) dX2_closureOf_22 (by decide) ?_
    refine g_ixor C dX2_closureOf_23 ?_
    refine g_iand C dX2_closureOf_24 ?_
    refine g_if_ne C 37 dX2_closureOf_25 (by decide) (fun c7 => ?_) (fun c7 => ?_)
    · replace h := it_f c7 h
      refine g_iinc C (v3.2 + 1) dX2_closureOf_37 3 rfl rfl (by decide) [(3, .int (v3.2 + 1)), (0, .ref a0), (1, .int p1), (2, .int v3.1)] rfl ?_
      refine g_goto C 7 dX2_closureOf_40 (by decide) ?_
      refine g_lv [1, 2, 3, 0] [(0, .ref a0), (1, .int p1), (2, .int v3.1), (3, .int (v3.2 + 1))] rfl ?_
      exact hk1 (v3.1, (v3.2 + 1)) (Option.some.inj h).symm
    · replace h := it_t c7 h
      refine g_iload_n C dX2_closureOf_28 rfl 2 rfl ?_
      refine g_aload_n C dX2_closureOf_29 rfl 0 rfl ?_
      refine g_get C 2 9 gin2 0 rfl rfl 0 (by decide) mw_1_69 rfl rfl dX2_closureOf_30 ?_
      refine g_iload_n C dX2_closureOf_33 rfl 3 rfl ?_
      obtain ⟨hi8, h⟩ := ck_of h
      refine g_iald C 1 rfl hi8 dX2_closureOf_34 ?_
      refine g_iand C dX2_closureOf_35 ?_
      refine g_istore_n C dX2_closureOf_36 rfl (by decide) [(2, .int (v3.1 &&& ((q2_sets o0) (ix v3.2)))), (0, .ref a0), (1, .int p1), (3, .int v3.2)] rfl ?_
      refine g_iinc C (v3.2 + 1) dX2_closureOf_37 3 rfl rfl (by decide) [(3, .int (v3.2 + 1)), (2, .int (v3.1 &&& ((q2_sets o0) (ix v3.2)))), (0, .ref a0), (1, .int p1)] rfl ?_
      refine g_goto C 7 dX2_closureOf_40 (by decide) ?_
      refine g_lv [2, 3, 1, 0] [(0, .ref a0), (1, .int p1), (2, .int (v3.1 &&& ((q2_sets o0) (ix v3.2)))), (3, .int (v3.2 + 1))] rfl ?_
      exact hk1 ((v3.1 &&& ((q2_sets o0) (ix v3.2))), (v3.2 + 1)) (Option.some.inj h).symm
def fX2_renumbered_L7 (p0 : Int32) (p1 : Int32) (v1 : Int32 × Int32 × Int32) : Option ((Int32 × Int32 × Int32) ⊕ (Int32)) :=
  if 8 ≤ v1.2.2 then (ex (some v1.1))
  else (if ((jshr p1 v1.2.2) &&& 1) = 1 then (some (.inl ((v1.1 ||| (jshl ((jshr p0 v1.2.2) &&& 1) v1.2.1)), (v1.2.1 + 1), (v1.2.2 + 1))))
  else (some (.inl (v1.1, v1.2.1, (v1.2.2 + 1)))))
def fX2_renumbered (p0 : Int32) (p1 : Int32) : Option (Int32) :=
  lp (fX2_renumbered_L7 p0 p1) lpN (0, 0, 0)
theorem myX2_renumbered : MYs yX2_renumbered cX2_renumbered 5 (some .int) 2 := ⟨mw_4_69, mw_4_70, mw_1_4, ⟨by decide +kernel, by decide +kernel⟩, by decide +kernel⟩
set_option maxRecDepth 100000 in
set_option maxHeartbeats 4000000 in
theorem kX2_renumbered (l : Launch) (Z : GZ) (p0 : Int32) (p1 : Int32) (res : Int32) (h : fX2_renumbered p0 p1 = some res) : MI l Z yX2_renumbered cX2_renumbered 5 .int 0 0 [.int p0, .int p1] [] res [] := by
  refine MI_of (by decide +kernel) (Nat.le_of_ble_eq_true rfl) (fun {p e s m args below meth c} A R hR Q hQ C hr hlk => ?_)
  unfold fX2_renumbered at h
  refine g_lv [0, 1] [(0, .int p0), (1, .int p1)] rfl ?_
  refine g_iconst C 0 dX2_renumbered_0 (by decide) ?_
  refine g_istore_n C dX2_renumbered_1 rfl (by decide) [(2, .int 0), (0, .int p0), (1, .int p1)] rfl ?_
  refine g_iconst C 0 dX2_renumbered_2 (by decide) ?_
  refine g_istore_n C dX2_renumbered_3 rfl (by decide) [(3, .int 0), (2, .int 0), (0, .int p0), (1, .int p1)] rfl ?_
  refine g_iconst C 0 dX2_renumbered_4 (by decide) ?_
  refine g_istore C dX2_renumbered_5 (by decide) [(4, .int 0), (3, .int 0), (2, .int 0), (0, .int p0), (1, .int p1)] rfl ?_
  refine g_lv [3, 4, 2, 1, 0] [(0, .int p0), (1, .int p1), (2, .int 0), (3, .int 0), (4, .int 0)] rfl ?_
  refine g_loop (lvf := fun v1 => [(0, .int p0), (1, .int p1), (2, .int v1.1), (3, .int v1.2.1), (4, .int v1.2.2)]) (wsf := fun v1 => []) h (fun v1 y1 h hk1 hx1 => ?_)
  refine g_eq (lv1 := [(0, .int p0), (1, .int p1), (2, .int v1.1), (3, .int v1.2.1), (4, .int v1.2.2)]) (st1 := []) (ws1 := []) rfl rfl rfl rfl ?_
  unfold fX2_renumbered_L7 at h
  refine g_iload C dX2_renumbered_7 4 rfl ?_
  refine g_bipush C 8 dX2_renumbered_9 (by decide) ?_
  refine g_icmp_ge C 44 dX2_renumbered_11 (by decide) (fun c2 => ?_) (fun c2 => ?_)
  · replace h := it_t c2 h
    obtain ⟨r3, h, hy⟩ := ex_of h
    rw [hx1 r3 hy] at h
    refine g_iload_n C dX2_renumbered_44 rfl 2 rfl ?_
    obtain rfl := Option.some.inj h
    subst hQ
    exact g_iret C rfl hr hlk dX2_renumbered_45 [] rfl (by decide)
  · replace h := it_f c2 h
    refine g_iload_n C dX2_renumbered_14 rfl 1 rfl ?_
    refine g_iload C dX2_renumbered_15 4 rfl ?_
    refine g_ishr C dX2_renumbered_17 ?_
    refine g_iconst C 1 dX2_renumbered_18 (by decide) ?_
    refine g_iand C dX2_renumbered_19 ?_
    refine g_iconst C 1 dX2_renumbered_20 (by decide) ?_
    refine g_icmp_ne C 38 dX2_renumbered_21 (by decide) (fun c4 => ?_) (fun c4 => ?_)
    · replace h := it_f c4 h
      refine g_iinc C (v1.2.2 + 1) dX2_renumbered_38 4 rfl rfl (by decide) [(4, .int (v1.2.2 + 1)), (0, .int p0), (1, .int p1), (2, .int v1.1), (3, .int v1.2.1)] rfl ?_
      refine g_goto C 7 dX2_renumbered_41 (by decide) ?_
      refine g_lv [1, 2, 3, 4, 0] [(0, .int p0), (1, .int p1), (2, .int v1.1), (3, .int v1.2.1), (4, .int (v1.2.2 + 1))] rfl ?_
      exact hk1 (v1.1, v1.2.1, (v1.2.2 + 1)) (Option.some.inj h).symm
    · replace h := it_t c4 h
      refine g_iload_n C dX2_renumbered_24 rfl 2 rfl ?_
      refine g_iload_n C dX2_renumbered_25 rfl 0 rfl ?_
      refine g_iload C dX2_renumbered_26 4 rfl ?_
      refine g_ishr C dX2_renumbered_28 ?_
      refine g_iconst C 1 dX2_renumbered_29 (by decide) ?_
      refine g_iand C dX2_renumbered_30 ?_
      refine g_iload_n C dX2_renumbered_31 rfl 3 rfl ?_
      refine g_ishl C dX2_renumbered_32 ?_
      refine g_ior C dX2_renumbered_33 ?_
      refine g_istore_n C dX2_renumbered_34 rfl (by decide) [(2, .int (v1.1 ||| (jshl ((jshr p0 v1.2.2) &&& 1) v1.2.1))), (0, .int p0), (1, .int p1), (3, .int v1.2.1), (4, .int v1.2.2)] rfl ?_
      refine g_iinc C (v1.2.1 + 1) dX2_renumbered_35 3 rfl rfl (by decide) [(3, .int (v1.2.1 + 1)), (2, .int (v1.1 ||| (jshl ((jshr p0 v1.2.2) &&& 1) v1.2.1))), (0, .int p0), (1, .int p1), (4, .int v1.2.2)] rfl ?_
      refine g_iinc C (v1.2.2 + 1) dX2_renumbered_38 4 rfl rfl (by decide) [(4, .int (v1.2.2 + 1)), (3, .int (v1.2.1 + 1)), (2, .int (v1.1 ||| (jshl ((jshr p0 v1.2.2) &&& 1) v1.2.1))), (0, .int p0), (1, .int p1)] rfl ?_
      refine g_goto C 7 dX2_renumbered_41 (by decide) ?_
      refine g_lv [3, 4, 2, 1, 0] [(0, .int p0), (1, .int p1), (2, .int (v1.1 ||| (jshl ((jshr p0 v1.2.2) &&& 1) v1.2.1))), (3, .int (v1.2.1 + 1)), (4, .int (v1.2.2 + 1))] rfl ?_
      exact hk1 ((v1.1 ||| (jshl ((jshr p0 v1.2.2) &&& 1) v1.2.1)), (v1.2.1 + 1), (v1.2.2 + 1)) (Option.some.inj h).symm

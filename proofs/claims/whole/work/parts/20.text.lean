def fX5_bytesIn_L5 (p0 : Int32) (v1 : Int32 × Int32) : Option ((Int32 × Int32) ⊕ (Int32)) :=
  if v1.2 < 0 then (ex (some v1.1))
  else (if ((jushr p0 v1.2) &&& 255) = 0 then (some (.inl (v1.1, (v1.2 + (-8)))))
  else (some (.inl ((v1.1 + 1), (v1.2 + (-8))))))
def fX5_bytesIn (p0 : Int32) : Option (Int32) :=
  lp (fX5_bytesIn_L5 p0) lpN (0, 24)
theorem myX5_bytesIn : MYs yX5_bytesIn cX5_bytesIn 3 (some .int) 1 := ⟨mw_3_76, mw_3_77, mw_1_2, ⟨by decide +kernel, by decide +kernel⟩, by decide +kernel⟩
set_option maxRecDepth 100000 in
set_option maxHeartbeats 4000000 in
theorem kX5_bytesIn (l : Launch) (Z : GZ) (p0 : Int32) (res : Int32) (h : fX5_bytesIn p0 = some res) : MI l Z yX5_bytesIn cX5_bytesIn 3 .int 0 0 [.int p0] [] res [] := by
  refine MI_of (by decide +kernel) (Nat.le_of_ble_eq_true rfl) (fun {p e s m args below meth c} A R hR Q hQ C hr hlk => ?_)
  unfold fX5_bytesIn at h
  refine g_lv [0] [(0, .int p0)] rfl ?_
  refine g_iconst C 0 dX5_bytesIn_0 (by decide) ?_
  refine g_istore_n C dX5_bytesIn_1 rfl (by decide) [(1, .int 0), (0, .int p0)] rfl ?_
  refine g_bipush C 24 dX5_bytesIn_2 (by decide) ?_
  refine g_istore_n C dX5_bytesIn_4 rfl (by decide) [(2, .int 24), (1, .int 0), (0, .int p0)] rfl ?_
  refine g_lv [2, 1, 0] [(0, .int p0), (1, .int 0), (2, .int 24)] rfl ?_
  refine g_loop (lvf := fun v1 => [(0, .int p0), (1, .int v1.1), (2, .int v1.2)]) (wsf := fun v1 => []) h (fun v1 y1 h hk1 hx1 => ?_)
  refine g_eq (lv1 := [(0, .int p0), (1, .int v1.1), (2, .int v1.2)]) (st1 := []) (ws1 := []) rfl rfl rfl rfl ?_
  unfold fX5_bytesIn_L5 at h
  refine g_iload_n C dX5_bytesIn_5 rfl 2 rfl ?_
  refine g_if_lt C 28 dX5_bytesIn_6 (by decide) (fun c2 => ?_) (fun c2 => ?_)
  · replace h := it_t c2 h
    obtain ⟨r3, h, hy⟩ := ex_of h
    rw [hx1 r3 hy] at h
    refine g_iload_n C dX5_bytesIn_28 rfl 1 rfl ?_
    obtain rfl := Option.some.inj h
    subst hQ
    exact g_iret C rfl hr hlk dX5_bytesIn_29 [] rfl (by decide)
  · replace h := it_f c2 h
    refine g_iload_n C dX5_bytesIn_9 rfl 0 rfl ?_
    refine g_iload_n C dX5_bytesIn_10 rfl 2 rfl ?_
    refine g_iushr C dX5_bytesIn_11 ?_
    refine g_sipush C 255 dX5_bytesIn_12 (by decide) ?_
    refine g_iand C dX5_bytesIn_15 ?_
    refine g_if_eq C 22 dX5_bytesIn_16 (by decide) (fun c4 => ?_) (fun c4 => ?_)
    · replace h := it_t c4 h
      refine g_iinc C (v1.2 + (-8)) dX5_bytesIn_22 2 rfl rfl (by decide) [(2, .int (v1.2 + (-8))), (0, .int p0), (1, .int v1.1)] rfl ?_
      refine g_goto C 5 dX5_bytesIn_25 (by decide) ?_
      refine g_lv [1, 2, 0] [(0, .int p0), (1, .int v1.1), (2, .int (v1.2 + (-8)))] rfl ?_
      have q9 := hk1 (v1.1, (v1.2 + (-8))) (Option.some.inj h).symm
      dsimp only at q9
      exact q9
    · replace h := it_f c4 h
      refine g_iinc C (v1.1 + 1) dX5_bytesIn_19 1 rfl rfl (by decide) [(1, .int (v1.1 + 1)), (0, .int p0), (2, .int v1.2)] rfl ?_
      refine g_iinc C (v1.2 + (-8)) dX5_bytesIn_22 2 rfl rfl (by decide) [(2, .int (v1.2 + (-8))), (1, .int (v1.1 + 1)), (0, .int p0)] rfl ?_
      refine g_goto C 5 dX5_bytesIn_25 (by decide) ?_
      refine g_lv [2, 1, 0] [(0, .int p0), (1, .int (v1.1 + 1)), (2, .int (v1.2 + (-8)))] rfl ?_
      have q9 := hk1 ((v1.1 + 1), (v1.2 + (-8))) (Option.some.inj h).symm
      dsimp only at q9
      exact q9
def fX5_put_L3 (o0 : OX5) (p1 : Int32) (v1 : Int32 × Int32 × (Nat → Int32)) : Option ((Int32 × Int32 × (Nat → Int32)) ⊕ (OX5)) :=
  if v1.1 < 0 then (ex (some (s5_length (s5_bytes o0 v1.2.2) v1.2.1)))
  else (if ((jushr p1 v1.1) &&& 255) = 0 then (some (.inl ((v1.1 + (-8)), v1.2.1, v1.2.2)))
  else (if 300 ≤ v1.2.1 then (some (.inl ((v1.1 + (-8)), v1.2.1, v1.2.2)))
  else (ck (okI v1.2.1 300) (some (.inl ((v1.1 + (-8)), (v1.2.1 + 1), (upd v1.2.2 (ix v1.2.1) ((jushr p1 v1.1) &&& 255))))))))
def fX5_put (o0 : OX5) (p1 : Int32) : Option (OX5) :=
  lp (fX5_put_L3 o0 p1) lpN (24, (q5_length o0), (q5_bytes o0))
theorem myX5_put : MYv yX5_put cX5_put 4 none 1 := ⟨mw_3_143, mw_3_144, mw_3_145, mw_1_2, ⟨by decide +kernel, by decide +kernel⟩, by decide +kernel⟩
set_option maxRecDepth 100000 in
set_option maxHeartbeats 4000000 in
theorem kX5_put (l : Launch) (Z : GZ) (a0 a0_bytes : Nat) (o0 : OX5) (p1 : Int32) (res : OX5) (h : fX5_put o0 p1 = some res) : MV l Z yX5_put cX5_put 4 0 0 [.ref a0, .int p1] [(a0, .inr (5, [.ref a0_bytes, .int (q5_length o0), .int (q5_kind o0), .int (q5_start o0), .int (q5_end o0)])), (a0_bytes, .inl (zI Z, 300, .inl (q5_bytes o0)))] [(a0, .inr (5, [.ref a0_bytes, .int (q5_length res), .int (q5_kind o0), .int (q5_start o0), .int (q5_end o0)])), (a0_bytes, .inl (zI Z, 300, .inl (q5_bytes res)))] := by
  refine MV_of (by decide +kernel) (Nat.le_of_ble_eq_true rfl) (fun {p e s m args below meth c} A R hR Q hQ C hr hlk => ?_)
  unfold fX5_put at h
  refine g_lv [0, 1] [(0, .ref a0), (1, .int p1)] rfl ?_
  refine g_bipush C 24 dX5_put_0 (by decide) ?_
  refine g_istore_n C dX5_put_2 rfl (by decide) [(2, .int 24), (0, .ref a0), (1, .int p1)] rfl ?_
  refine g_lv [1, 2, 0] [(0, .ref a0), (1, .int p1), (2, .int 24)] rfl ?_
  refine g_loop (lvf := fun v1 => [(0, .ref a0), (1, .int p1), (2, .int v1.1)]) (wsf := fun v1 => [(a0, .inr (5, [.ref a0_bytes, .int v1.2.1, .int (q5_kind o0), .int (q5_start o0), .int (q5_end o0)])), (a0_bytes, .inl (zI Z, 300, .inl v1.2.2))]) h (fun v1 y1 h hk1 hx1 => ?_)
  refine g_eq (lv1 := [(0, .ref a0), (1, .int p1), (2, .int v1.1)]) (st1 := []) (ws1 := [(a0, .inr (5, [.ref a0_bytes, .int v1.2.1, .int (q5_kind o0), .int (q5_start o0), .int (q5_end o0)])), (a0_bytes, .inl (zI Z, 300, .inl v1.2.2))]) rfl rfl rfl rfl ?_
  unfold fX5_put_L3 at h
  refine g_iload_n C dX5_put_3 rfl 2 rfl ?_
  refine g_if_lt C 55 dX5_put_4 (by decide) (fun c2 => ?_) (fun c2 => ?_)
  · replace h := it_t c2 h
    obtain ⟨r3, h, hy⟩ := ex_of h
    rw [hx1 r3 hy] at h
    obtain rfl := Option.some.inj h
    subst hQ
    exact g_vret C hr hlk dX5_put_55 [0, 1] rfl (by decide)
  · replace h := it_f c2 h
    refine g_iload_n C dX5_put_7 rfl 1 rfl ?_
    refine g_iload_n C dX5_put_8 rfl 2 rfl ?_
    refine g_iushr C dX5_put_9 ?_
    refine g_sipush C 255 dX5_put_10 (by decide) ?_
    refine g_iand C dX5_put_13 ?_
    refine g_istore_n C dX5_put_14 rfl (by decide) [(3, .int ((jushr p1 v1.1) &&& 255)), (0, .ref a0), (1, .int p1), (2, .int v1.1)] rfl ?_
    refine g_iload_n C dX5_put_15 rfl 0 rfl ?_
    refine g_if_eq C 49 dX5_put_16 (by decide) (fun c4 => ?_) (fun c4 => ?_)
    · replace h := it_t c4 h
      refine g_iinc C (v1.1 + (-8)) dX5_put_49 3 rfl rfl (by decide) [(2, .int (v1.1 + (-8))), (3, .int ((jushr p1 v1.1) &&& 255)), (0, .ref a0), (1, .int p1)] rfl ?_
      refine g_goto C 3 dX5_put_52 (by decide) ?_
      refine g_lv [2, 3, 0] [(0, .ref a0), (1, .int p1), (2, .int (v1.1 + (-8)))] rfl ?_
      have q9 := hk1 ((v1.1 + (-8)), v1.2.1, v1.2.2) (Option.some.inj h).symm
      dsimp only at q9
      exact q9
    · replace h := it_f c4 h
      refine g_aload_n C dX5_put_19 rfl 1 rfl ?_
      refine g_get C 5 15 gin5 0 rfl rfl 1 (by decide) mw_1_39 rfl rfl dX5_put_20 ?_
      refine g_sipush C 300 dX5_put_23 (by decide) ?_
      refine g_icmp_ge C 49 dX5_put_26 (by decide) (fun c5 => ?_) (fun c5 => ?_)
      · replace h := it_t c5 h
        refine g_iinc C (v1.1 + (-8)) dX5_put_49 3 rfl rfl (by decide) [(2, .int (v1.1 + (-8))), (3, .int ((jushr p1 v1.1) &&& 255)), (0, .ref a0), (1, .int p1)] rfl ?_
        refine g_goto C 3 dX5_put_52 (by decide) ?_
        refine g_lv [2, 3, 0] [(0, .ref a0), (1, .int p1), (2, .int (v1.1 + (-8)))] rfl ?_
        have q9 := hk1 ((v1.1 + (-8)), v1.2.1, v1.2.2) (Option.some.inj h).symm
        dsimp only at q9
        exact q9
      · replace h := it_f c5 h
        refine g_aload_n C dX5_put_29 rfl 1 rfl ?_
        refine g_get C 5 9 gin5 0 rfl rfl 0 (by decide) mw_1_38 rfl rfl dX5_put_30 ?_
        refine g_aload_n C dX5_put_33 rfl 1 rfl ?_
        refine g_get C 5 15 gin5 0 rfl rfl 1 (by decide) mw_1_39 rfl rfl dX5_put_34 ?_
        refine g_iload_n C dX5_put_37 rfl 0 rfl ?_
        obtain ⟨hi6, h⟩ := ck_of h
        refine g_iast C 1 rfl hi6 [(a0, .inr (5, [.ref a0_bytes, .int v1.2.1, .int (q5_kind o0), .int (q5_start o0), .int (q5_end o0)])), (a0_bytes, .inl (zI Z, 300, .inl (upd v1.2.2 (ix v1.2.1) ((jushr p1 v1.1) &&& 255))))] rfl dX5_put_38 ?_
        refine g_aload_n C dX5_put_39 rfl 1 rfl ?_
        refine g_dup C dX5_put_40 rfl ?_
        refine g_get C 5 15 gin5 0 rfl rfl 1 (by decide) mw_1_39 rfl rfl dX5_put_41 ?_
        refine g_iconst C 1 dX5_put_44 (by decide) ?_
        refine g_iadd C dX5_put_45 ?_
        refine g_put C 5 15 gin5 tyX5 tyX5_ok nmX5 0 rfl rfl 1 (by decide) mw_1_39 rfl rfl (ty := .int) (by decide +kernel) rfl rfl (Nat.le_of_ble_eq_true rfl) [(a0, .inr (5, [.ref a0_bytes, .int (v1.2.1 + 1), .int (q5_kind o0), .int (q5_start o0), .int (q5_end o0)])), (a0_bytes, .inl (zI Z, 300, .inl (upd v1.2.2 (ix v1.2.1) ((jushr p1 v1.1) &&& 255))))] rfl dX5_put_46 ?_
        refine g_iinc C (v1.1 + (-8)) dX5_put_49 3 rfl rfl (by decide) [(2, .int (v1.1 + (-8))), (3, .int ((jushr p1 v1.1) &&& 255)), (0, .ref a0), (1, .int p1)] rfl ?_
        refine g_goto C 3 dX5_put_52 (by decide) ?_
        refine g_lv [2, 3, 0] [(0, .ref a0), (1, .int p1), (2, .int (v1.1 + (-8)))] rfl ?_
        have q9 := hk1 ((v1.1 + (-8)), (v1.2.1 + 1), (upd v1.2.2 (ix v1.2.1) ((jushr p1 v1.1) &&& 255))) (Option.some.inj h).symm
        dsimp only at q9
        exact q9
def fX5_kindOf_J28 (p0 : Int32) : Option (Int32) :=
  if p0 = 59 then (some 3)
  else (some 4)
def fX5_kindOf_J14 (p0 : Int32) : Option (Int32) :=
  if p0 < 48 then (fX5_kindOf_J28 p0)
  else (if 57 < p0 then (fX5_kindOf_J28 p0)
  else (some 2))
def fX5_kindOf (p0 : Int32) : Option (Int32) :=
  if p0 < 97 then (fX5_kindOf_J14 p0)
  else (if 122 < p0 then (fX5_kindOf_J14 p0)
  else (some 1))
theorem myX5_kindOf : MYs yX5_kindOf cX5_kindOf 1 (some .int) 1 := ⟨mw_2_20, mw_2_21, mw_1_2, ⟨by decide +kernel, by decide +kernel⟩, by decide +kernel⟩
set_option maxRecDepth 100000 in
set_option maxHeartbeats 4000000 in
theorem kX5_kindOf (l : Launch) (Z : GZ) (p0 : Int32) (res : Int32) (h : fX5_kindOf p0 = some res) : MI l Z yX5_kindOf cX5_kindOf 1 .int 0 0 [.int p0] [] res [] := by
  refine MI_of (by decide +kernel) (Nat.le_of_ble_eq_true rfl) (fun {p e s m args below meth c} A R hR Q hQ C hr hlk => ?_)
  unfold fX5_kindOf at h
  refine g_lv [0] [(0, .int p0)] rfl ?_
  refine g_iload_n C dX5_kindOf_0 rfl 0 rfl ?_
  refine g_bipush C 97 dX5_kindOf_1 (by decide) ?_
  have hj14 : fX5_kindOf_J14 p0 = some res → Gw p l e R s m args below meth c 1 Z A Q 0 0 14 [(0, .int p0)] [] [] := by
    intro h
    unfold fX5_kindOf_J14 at h
    refine g_iload_n C dX5_kindOf_14 rfl 0 rfl ?_
    refine g_bipush C 48 dX5_kindOf_15 (by decide) ?_
    have hj28 : fX5_kindOf_J28 p0 = some res → Gw p l e R s m args below meth c 1 Z A Q 0 0 28 [(0, .int p0)] [] [] := by
      intro h
      unfold fX5_kindOf_J28 at h
      refine g_iload_n C dX5_kindOf_28 rfl 0 rfl ?_
      refine g_bipush C 59 dX5_kindOf_29 (by decide) ?_
      refine g_icmp_ne C 38 dX5_kindOf_31 (by decide) (fun c1 => ?_) (fun c1 => ?_)
      · replace h := it_f c1 h
        refine g_iconst C 4 dX5_kindOf_38 (by decide) ?_
        obtain rfl := Option.some.inj h
        subst hQ
        exact g_iret C rfl hr hlk dX5_kindOf_39 [] rfl (by decide)
      · replace h := it_t c1 h
        refine g_iconst C 3 dX5_kindOf_34 (by decide) ?_
        refine g_goto C 39 dX5_kindOf_35 (by decide) ?_
        obtain rfl := Option.some.inj h
        subst hQ
        exact g_iret C rfl hr hlk dX5_kindOf_39 [] rfl (by decide)
    refine g_icmp_lt C 28 dX5_kindOf_17 (by decide) (fun c2 => ?_) (fun c2 => ?_)
    · replace h := it_t c2 h
      exact hj28 h
    · replace h := it_f c2 h
      refine g_iload_n C dX5_kindOf_20 rfl 0 rfl ?_
      refine g_bipush C 57 dX5_kindOf_21 (by decide) ?_
      refine g_icmp_gt C 28 dX5_kindOf_23 (by decide) (fun c3 => ?_) (fun c3 => ?_)
      · replace h := it_t c3 h
        exact hj28 h
      · replace h := it_f c3 h
        refine g_iconst C 2 dX5_kindOf_26 (by decide) ?_
        obtain rfl := Option.some.inj h
        subst hQ
        exact g_iret C rfl hr hlk dX5_kindOf_27 [] rfl (by decide)
  refine g_icmp_lt C 14 dX5_kindOf_3 (by decide) (fun c4 => ?_) (fun c4 => ?_)
  · replace h := it_t c4 h
    exact hj14 h
  · replace h := it_f c4 h
    refine g_iload_n C dX5_kindOf_6 rfl 0 rfl ?_
    refine g_bipush C 122 dX5_kindOf_7 (by decide) ?_
    refine g_icmp_gt C 14 dX5_kindOf_9 (by decide) (fun c5 => ?_) (fun c5 => ?_)
    · replace h := it_t c5 h
      exact hj14 h
    · replace h := it_f c5 h
      refine g_iconst C 1 dX5_kindOf_12 (by decide) ?_
      obtain rfl := Option.some.inj h
      subst hQ
      exact g_iret C rfl hr hlk dX5_kindOf_13 [] rfl (by decide)
def fX5_advance_L113 (o0 : OX5) (v1 : Int32) (r4 : Int32) (v7 : Int32) : Option ((Int32) ⊕ (OX5)) :=
  if (q5_length o0) ≤ v7 then (ex (some (s5_end (s5_start (s5_kind o0 r4) v1) v7)))
  else (ck (okI v7 300) ((fX5_kindOf ((q5_bytes o0) (ix v7))).bind fun r11 =>
  (if r11 = r4 then (some (.inl (v7 + 1)))
  else (ex (some (s5_end (s5_start (s5_kind o0 r4) v1) v7))))))
def fX5_advance_L113_2 (o0 : OX5) (v1 : Int32) (r4 : Int32) (v16 : Int32) : Option ((Int32) ⊕ (OX5)) :=
  if (q5_length o0) ≤ v16 then (ex (some (s5_end (s5_start (s5_kind o0 r4) v1) v16)))
  else (ck (okI v16 300) ((fX5_kindOf ((q5_bytes o0) (ix v16))).bind fun r20 =>
  (if r20 = r4 then (some (.inl (v16 + 1)))
  else (ex (some (s5_end (s5_start (s5_kind o0 r4) v1) v16))))))
def fX5_advance_J46 (o0 : OX5) (v1 : Int32) : Option (OX5) :=
  if v1 < (q5_length o0) then (ck (okI v1 300) ((fX5_kindOf ((q5_bytes o0) (ix v1))).bind fun r4 =>
  (if r4 = 1 then (lp (fX5_advance_L113 o0 v1 r4) lpN (v1 + 1))
  else (if r4 = 2 then (lp (fX5_advance_L113_2 o0 v1 r4) lpN (v1 + 1))
  else (some (s5_end (s5_start (s5_kind o0 r4) v1) (v1 + 1)))))))
  else (some (s5_end (s5_start (s5_kind o0 0) v1) v1))
def fX5_advance_L8 (o0 : OX5) (v1 : Int32) : Option ((Int32) ⊕ (OX5)) :=
  if (q5_length o0) ≤ v1 then (ex (fX5_advance_J46 o0 v1))
  else (ck (okI v1 300) (if ((q5_bytes o0) (ix v1)) = 32 then (some (.inl (v1 + 1)))
  else (ex (fX5_advance_J46 o0 v1))))
def fX5_advance (o0 : OX5) : Option (OX5) :=
  lp (fX5_advance_L8 o0) lpN (q5_end o0)
theorem myX5_advance : MYv yX5_advance cX5_advance 1 none 0 := ⟨mw_2_17, ms_2, mw_2_18, mw_1_2, ⟨by decide +kernel, by decide +kernel⟩, by decide +kernel⟩
set_option maxRecDepth 100000 in
set_option maxHeartbeats 4000000 in
theorem kX5_advance (l : Launch) (Z : GZ) (a0 a0_bytes : Nat) (o0 : OX5) (res : OX5) (h : fX5_advance o0 = some res) : MV l Z yX5_advance cX5_advance 1 1 20 [.ref a0] [(a0, .inr (5, [.ref a0_bytes, .int (q5_length o0), .int (q5_kind o0), .int (q5_start o0), .int (q5_end o0)])), (a0_bytes, .inl (zI Z, 300, .inl (q5_bytes o0)))] [(a0, .inr (5, [.ref a0_bytes, .int (q5_length o0), .int (q5_kind res), .int (q5_start res), .int (q5_end res)])), (a0_bytes, .inl (zI Z, 300, .inl (q5_bytes o0)))] := by
  refine MV_of (by decide +kernel) (Nat.le_of_ble_eq_true rfl) (fun {p e s m args below meth c} A R hR Q hQ C hr hlk => ?_)
  unfold fX5_advance at h
  refine g_lv [0] [(0, .ref a0)] rfl ?_
  refine g_aload_n C dX5_advance_0 rfl 0 rfl ?_
  refine g_aload_n C dX5_advance_1 rfl 0 rfl ?_
  refine g_get C 5 25 gin5 0 rfl rfl 4 (by decide) mw_1_43 rfl rfl dX5_advance_2 ?_
  refine g_put C 5 22 gin5 tyX5 tyX5_ok nmX5 0 rfl rfl 3 (by decide) mw_1_42 rfl rfl (ty := .int) (by decide +kernel) rfl rfl (Nat.le_of_ble_eq_true rfl) [(a0, .inr (5, [.ref a0_bytes, .int (q5_length o0), .int (q5_kind o0), .int (q5_end o0), .int (q5_end o0)])), (a0_bytes, .inl (zI Z, 300, .inl (q5_bytes o0)))] rfl dX5_advance_5 ?_
  refine g_loop (lvf := fun v1 => [(0, .ref a0)]) (wsf := fun v1 => [(a0, .inr (5, [.ref a0_bytes, .int (q5_length o0), .int (q5_kind o0), .int v1, .int (q5_end o0)])), (a0_bytes, .inl (zI Z, 300, .inl (q5_bytes o0)))]) h (fun v1 y1 h hk1 hx1 => ?_)
  refine g_eq (lv1 := [(0, .ref a0)]) (st1 := []) (ws1 := [(a0, .inr (5, [.ref a0_bytes, .int (q5_length o0), .int (q5_kind o0), .int v1, .int (q5_end o0)])), (a0_bytes, .inl (zI Z, 300, .inl (q5_bytes o0)))]) rfl rfl rfl rfl ?_
  unfold fX5_advance_L8 at h
  refine g_aload_n C dX5_advance_8 rfl 0 rfl ?_
  refine g_get C 5 22 gin5 0 rfl rfl 3 (by decide) mw_1_42 rfl rfl dX5_advance_9 ?_
  refine g_aload_n C dX5_advance_12 rfl 0 rfl ?_
  refine g_get C 5 15 gin5 0 rfl rfl 1 (by decide) mw_1_39 rfl rfl dX5_advance_13 ?_
  have hj46 : fX5_advance_J46 o0 v1 = some res → Gw p l e R s m args below meth c 1 Z A Q 0 0 46 [(0, .ref a0)] [] [(a0, .inr (5, [.ref a0_bytes, .int (q5_length o0), .int (q5_kind o0), .int v1, .int (q5_end o0)])), (a0_bytes, .inl (zI Z, 300, .inl (q5_bytes o0)))] := by
    intro h
    unfold fX5_advance_J46 at h
    refine g_aload_n C dX5_advance_46 rfl 0 rfl ?_
    refine g_aload_n C dX5_advance_47 rfl 0 rfl ?_
    refine g_get C 5 22 gin5 0 rfl rfl 3 (by decide) mw_1_42 rfl rfl dX5_advance_48 ?_
    refine g_put C 5 25 gin5 tyX5 tyX5_ok nmX5 0 rfl rfl 4 (by decide) mw_1_43 rfl rfl (ty := .int) (by decide +kernel) rfl rfl (Nat.le_of_ble_eq_true rfl) [(a0, .inr (5, [.ref a0_bytes, .int (q5_length o0), .int (q5_kind o0), .int v1, .int v1])), (a0_bytes, .inl (zI Z, 300, .inl (q5_bytes o0)))] rfl dX5_advance_51 ?_
    refine g_aload_n C dX5_advance_54 rfl 0 rfl ?_
    refine g_get C 5 22 gin5 0 rfl rfl 3 (by decide) mw_1_42 rfl rfl dX5_advance_55 ?_
    refine g_aload_n C dX5_advance_58 rfl 0 rfl ?_
    refine g_get C 5 15 gin5 0 rfl rfl 1 (by decide) mw_1_39 rfl rfl dX5_advance_59 ?_
    refine g_icmp_lt C 71 dX5_advance_62 (by decide) (fun c2 => ?_) (fun c2 => ?_)
    · replace h := it_t c2 h
      refine g_aload_n C dX5_advance_71 rfl 0 rfl ?_
      refine g_aload_n C dX5_advance_72 rfl 0 rfl ?_
      refine g_get C 5 9 gin5 0 rfl rfl 0 (by decide) mw_1_38 rfl rfl dX5_advance_73 ?_
      refine g_aload_n C dX5_advance_76 rfl 0 rfl ?_
      refine g_get C 5 22 gin5 0 rfl rfl 3 (by decide) mw_1_42 rfl rfl dX5_advance_77 ?_
      obtain ⟨hi3, h⟩ := ck_of h
      refine g_iald C 1 rfl hi3 dX5_advance_80 ?_
      obtain ⟨r4, hr5, h⟩ := bd_of h
      refine g_callSi C (kX5_kindOf l Z ((q5_bytes o0) (ix v1)) r4 hr5) myX5_kindOf 90 mw_2_19 rfl [] [0, 1] [0, 1] (wr := [(a0, .inr (5, [.ref a0_bytes, .int (q5_length o0), .int (q5_kind o0), .int v1, .int v1])), (a0_bytes, .inl (zI Z, 300, .inl (q5_bytes o0)))]) rfl rfl (by decide) (by decide) (by decide) [(a0, .inr (5, [.ref a0_bytes, .int (q5_length o0), .int (q5_kind o0), .int v1, .int v1])), (a0_bytes, .inl (zI Z, 300, .inl (q5_bytes o0)))] rfl (by decide) (Nat.le_of_ble_eq_true rfl) (by rw [hR]; exact Nat.le_of_ble_eq_true rfl) (by rw [hR]; exact Nat.le_of_ble_eq_true rfl) ⟨by rw [hR]; exact Nat.le_of_ble_eq_true rfl, by rw [hR]; exact Nat.le_of_ble_eq_true rfl⟩ rfl dX5_advance_81 ?_
      refine g_put C 5 19 gin5 tyX5 tyX5_ok nmX5 0 rfl rfl 2 (by decide) mw_1_41 rfl rfl (ty := .int) (by decide +kernel) rfl rfl (Nat.le_of_ble_eq_true rfl) [(a0, .inr (5, [.ref a0_bytes, .int (q5_length o0), .int r4, .int v1, .int v1])), (a0_bytes, .inl (zI Z, 300, .inl (q5_bytes o0)))] rfl dX5_advance_84 ?_
      refine g_aload_n C dX5_advance_87 rfl 0 rfl ?_
      refine g_dup C dX5_advance_88 rfl ?_
      refine g_get C 5 25 gin5 0 rfl rfl 4 (by decide) mw_1_43 rfl rfl dX5_advance_89 ?_
      refine g_iconst C 1 dX5_advance_92 (by decide) ?_
      refine g_iadd C dX5_advance_93 ?_
      refine g_put C 5 25 gin5 tyX5 tyX5_ok nmX5 0 rfl rfl 4 (by decide) mw_1_43 rfl rfl (ty := .int) (by decide +kernel) rfl rfl (Nat.le_of_ble_eq_true rfl) [(a0, .inr (5, [.ref a0_bytes, .int (q5_length o0), .int r4, .int v1, .int (v1 + 1)])), (a0_bytes, .inl (zI Z, 300, .inl (q5_bytes o0)))] rfl dX5_advance_94 ?_
      refine g_aload_n C dX5_advance_97 rfl 0 rfl ?_
      refine g_get C 5 19 gin5 0 rfl rfl 2 (by decide) mw_1_41 rfl rfl dX5_advance_98 ?_
      refine g_iconst C 1 dX5_advance_101 (by decide) ?_
      refine g_icmp_eq C 113 dX5_advance_102 (by decide) (fun c6 => ?_) (fun c6 => ?_)
      · replace h := it_t c6 h
        refine g_loop (lvf := fun v7 => [(0, .ref a0)]) (wsf := fun v7 => [(a0, .inr (5, [.ref a0_bytes, .int (q5_length o0), .int r4, .int v1, .int v7])), (a0_bytes, .inl (zI Z, 300, .inl (q5_bytes o0)))]) h (fun v7 y1 h hk1 hx1 => ?_)
        refine g_eq (lv1 := [(0, .ref a0)]) (st1 := []) (ws1 := [(a0, .inr (5, [.ref a0_bytes, .int (q5_length o0), .int r4, .int v1, .int v7])), (a0_bytes, .inl (zI Z, 300, .inl (q5_bytes o0)))]) rfl rfl rfl rfl ?_
        unfold fX5_advance_L113 at h
        refine g_aload_n C dX5_advance_113 rfl 0 rfl ?_
        refine g_get C 5 25 gin5 0 rfl rfl 4 (by decide) mw_1_43 rfl rfl dX5_advance_114 ?_
        refine g_aload_n C dX5_advance_117 rfl 0 rfl ?_
        refine g_get C 5 15 gin5 0 rfl rfl 1 (by decide) mw_1_39 rfl rfl dX5_advance_118 ?_
        refine g_icmp_ge C 156 dX5_advance_121 (by decide) (fun c8 => ?_) (fun c8 => ?_)
        · replace h := it_t c8 h
          obtain ⟨r9, h, hy⟩ := ex_of h
          rw [hx1 r9 hy] at h
          obtain rfl := Option.some.inj h
          subst hQ
          exact g_vret C hr hlk dX5_advance_156 [0, 1] rfl (by decide)
        · replace h := it_f c8 h
          refine g_aload_n C dX5_advance_124 rfl 0 rfl ?_
          refine g_get C 5 9 gin5 0 rfl rfl 0 (by decide) mw_1_38 rfl rfl dX5_advance_125 ?_
          refine g_aload_n C dX5_advance_128 rfl 0 rfl ?_
          refine g_get C 5 25 gin5 0 rfl rfl 4 (by decide) mw_1_43 rfl rfl dX5_advance_129 ?_
          obtain ⟨hi10, h⟩ := ck_of h
          refine g_iald C 1 rfl hi10 dX5_advance_132 ?_
          obtain ⟨r11, hr12, h⟩ := bd_of h
          refine g_callSi C (kX5_kindOf l Z ((q5_bytes o0) (ix v7)) r11 hr12) myX5_kindOf 90 mw_2_19 rfl [] [0, 1] [0, 1] (wr := [(a0, .inr (5, [.ref a0_bytes, .int (q5_length o0), .int r4, .int v1, .int v7])), (a0_bytes, .inl (zI Z, 300, .inl (q5_bytes o0)))]) rfl rfl (by decide) (by decide) (by decide) [(a0, .inr (5, [.ref a0_bytes, .int (q5_length o0), .int r4, .int v1, .int v7])), (a0_bytes, .inl (zI Z, 300, .inl (q5_bytes o0)))] rfl (by decide) (Nat.le_of_ble_eq_true rfl) (by rw [hR]; exact Nat.le_of_ble_eq_true rfl) (by rw [hR]; exact Nat.le_of_ble_eq_true rfl) ⟨by rw [hR]; exact Nat.le_of_ble_eq_true rfl, by rw [hR]; exact Nat.le_of_ble_eq_true rfl⟩ rfl dX5_advance_133 ?_
          refine g_aload_n C dX5_advance_136 rfl 0 rfl ?_
          refine g_get C 5 19 gin5 0 rfl rfl 2 (by decide) mw_1_41 rfl rfl dX5_advance_137 ?_
          refine g_icmp_ne C 156 dX5_advance_140 (by decide) (fun c13 => ?_) (fun c13 => ?_)
          · replace h := it_f c13 h
            obtain ⟨r14, h, hy⟩ := ex_of h
            rw [hx1 r14 hy] at h
            obtain rfl := Option.some.inj h
            subst hQ
            exact g_vret C hr hlk dX5_advance_156 [0, 1] rfl (by decide)
          · replace h := it_t c13 h
            refine g_aload_n C dX5_advance_143 rfl 0 rfl ?_
            refine g_dup C dX5_advance_144 rfl ?_
            refine g_get C 5 25 gin5 0 rfl rfl 4 (by decide) mw_1_43 rfl rfl dX5_advance_145 ?_
            refine g_iconst C 1 dX5_advance_148 (by decide) ?_
            refine g_iadd C dX5_advance_149 ?_
            refine g_put C 5 25 gin5 tyX5 tyX5_ok nmX5 0 rfl rfl 4 (by decide) mw_1_43 rfl rfl (ty := .int) (by decide +kernel) rfl rfl (Nat.le_of_ble_eq_true rfl) [(a0, .inr (5, [.ref a0_bytes, .int (q5_length o0), .int r4, .int v1, .int (v7 + 1)])), (a0_bytes, .inl (zI Z, 300, .inl (q5_bytes o0)))] rfl dX5_advance_150 ?_
            refine g_goto C 113 dX5_advance_153 (by decide) ?_
            exact hk1 (v7 + 1) (Option.some.inj h).symm
      · replace h := it_f c6 h
        refine g_aload_n C dX5_advance_105 rfl 0 rfl ?_
        refine g_get C 5 19 gin5 0 rfl rfl 2 (by decide) mw_1_41 rfl rfl dX5_advance_106 ?_
        refine g_iconst C 2 dX5_advance_109 (by decide) ?_
        refine g_icmp_ne C 156 dX5_advance_110 (by decide) (fun c15 => ?_) (fun c15 => ?_)
        · replace h := it_f c15 h
          obtain rfl := Option.some.inj h
          subst hQ
          exact g_vret C hr hlk dX5_advance_156 [0, 1] rfl (by decide)
        · replace h := it_t c15 h
          refine g_loop (lvf := fun v16 => [(0, .ref a0)]) (wsf := fun v16 => [(a0, .inr (5, [.ref a0_bytes, .int (q5_length o0), .int r4, .int v1, .int v16])), (a0_bytes, .inl (zI Z, 300, .inl (q5_bytes o0)))]) h (fun v16 y1 h hk1 hx1 => ?_)
          refine g_eq (lv1 := [(0, .ref a0)]) (st1 := []) (ws1 := [(a0, .inr (5, [.ref a0_bytes, .int (q5_length o0), .int r4, .int v1, .int v16])), (a0_bytes, .inl (zI Z, 300, .inl (q5_bytes o0)))]) rfl rfl rfl rfl ?_
          unfold fX5_advance_L113_2 at h
          refine g_aload_n C dX5_advance_113 rfl 0 rfl ?_
          refine g_get C 5 25 gin5 0 rfl rfl 4 (by decide) mw_1_43 rfl rfl dX5_advance_114 ?_
          refine g_aload_n C dX5_advance_117 rfl 0 rfl ?_
          refine g_get C 5 15 gin5 0 rfl rfl 1 (by decide) mw_1_39 rfl rfl dX5_advance_118 ?_
          refine g_icmp_ge C 156 dX5_advance_121 (by decide) (fun c17 => ?_) (fun c17 => ?_)
          · replace h := it_t c17 h
            obtain ⟨r18, h, hy⟩ := ex_of h
            rw [hx1 r18 hy] at h
            obtain rfl := Option.some.inj h
            subst hQ
            exact g_vret C hr hlk dX5_advance_156 [0, 1] rfl (by decide)
          · replace h := it_f c17 h
            refine g_aload_n C dX5_advance_124 rfl 0 rfl ?_
            refine g_get C 5 9 gin5 0 rfl rfl 0 (by decide) mw_1_38 rfl rfl dX5_advance_125 ?_
            refine g_aload_n C dX5_advance_128 rfl 0 rfl ?_
            refine g_get C 5 25 gin5 0 rfl rfl 4 (by decide) mw_1_43 rfl rfl dX5_advance_129 ?_
            obtain ⟨hi19, h⟩ := ck_of h
            refine g_iald C 1 rfl hi19 dX5_advance_132 ?_
            obtain ⟨r20, hr21, h⟩ := bd_of h
            refine g_callSi C (kX5_kindOf l Z ((q5_bytes o0) (ix v16)) r20 hr21) myX5_kindOf 90 mw_2_19 rfl [] [0, 1] [0, 1] (wr := [(a0, .inr (5, [.ref a0_bytes, .int (q5_length o0), .int r4, .int v1, .int v16])), (a0_bytes, .inl (zI Z, 300, .inl (q5_bytes o0)))]) rfl rfl (by decide) (by decide) (by decide) [(a0, .inr (5, [.ref a0_bytes, .int (q5_length o0), .int r4, .int v1, .int v16])), (a0_bytes, .inl (zI Z, 300, .inl (q5_bytes o0)))] rfl (by decide) (Nat.le_of_ble_eq_true rfl) (by rw [hR]; exact Nat.le_of_ble_eq_true rfl) (by rw [hR]; exact Nat.le_of_ble_eq_true rfl) ⟨by rw [hR]; exact Nat.le_of_ble_eq_true rfl, by rw [hR]; exact Nat.le_of_ble_eq_true rfl⟩ rfl dX5_advance_133 ?_
            refine g_aload_n C dX5_advance_136 rfl 0 rfl ?_
            refine g_get C 5 19 gin5 0 rfl rfl 2 (by decide) mw_1_41 rfl rfl dX5_advance_137 ?_
            refine g_icmp_ne C 156 dX5_advance_140 (by decide) (fun c22 => ?_) (fun c22 => ?_)
            · replace h := it_f c22 h
              obtain ⟨r23, h, hy⟩ := ex_of h
              rw [hx1 r23 hy] at h
              obtain rfl := Option.some.inj h
              subst hQ
              exact g_vret C hr hlk dX5_advance_156 [0, 1] rfl (by decide)
            · replace h := it_t c22 h
              refine g_aload_n C dX5_advance_143 rfl 0 rfl ?_
              refine g_dup C dX5_advance_144 rfl ?_
              refine g_get C 5 25 gin5 0 rfl rfl 4 (by decide) mw_1_43 rfl rfl dX5_advance_145 ?_
              refine g_iconst C 1 dX5_advance_148 (by decide) ?_
              refine g_iadd C dX5_advance_149 ?_
              refine g_put C 5 25 gin5 tyX5 tyX5_ok nmX5 0 rfl rfl 4 (by decide) mw_1_43 rfl rfl (ty := .int) (by decide +kernel) rfl rfl (Nat.le_of_ble_eq_true rfl) [(a0, .inr (5, [.ref a0_bytes, .int (q5_length o0), .int r4, .int v1, .int (v16 + 1)])), (a0_bytes, .inl (zI Z, 300, .inl (q5_bytes o0)))] rfl dX5_advance_150 ?_
              refine g_goto C 113 dX5_advance_153 (by decide) ?_
              exact hk1 (v16 + 1) (Option.some.inj h).symm
    · replace h := it_f c2 h
      refine g_aload_n C dX5_advance_65 rfl 0 rfl ?_
      refine g_iconst C 0 dX5_advance_66 (by decide) ?_
      refine g_put C 5 19 gin5 tyX5 tyX5_ok nmX5 0 rfl rfl 2 (by decide) mw_1_41 rfl rfl (ty := .int) (by decide +kernel) rfl rfl (Nat.le_of_ble_eq_true rfl) [(a0, .inr (5, [.ref a0_bytes, .int (q5_length o0), .int 0, .int v1, .int v1])), (a0_bytes, .inl (zI Z, 300, .inl (q5_bytes o0)))] rfl dX5_advance_67 ?_
      obtain rfl := Option.some.inj h
      subst hQ
      exact g_vret C hr hlk dX5_advance_70 [0, 1] rfl (by decide)
  refine g_icmp_ge C 46 dX5_advance_16 (by decide) (fun c24 => ?_) (fun c24 => ?_)
  · replace h := it_t c24 h
    obtain ⟨r25, h, hy⟩ := ex_of h
    rw [hx1 r25 hy] at h
    exact hj46 h
  · replace h := it_f c24 h
    refine g_aload_n C dX5_advance_19 rfl 0 rfl ?_
    refine g_get C 5 9 gin5 0 rfl rfl 0 (by decide) mw_1_38 rfl rfl dX5_advance_20 ?_
    refine g_aload_n C dX5_advance_23 rfl 0 rfl ?_
    refine g_get C 5 22 gin5 0 rfl rfl 3 (by decide) mw_1_42 rfl rfl dX5_advance_24 ?_
    obtain ⟨hi26, h⟩ := ck_of h
    refine g_iald C 1 rfl hi26 dX5_advance_27 ?_
    refine g_bipush C 32 dX5_advance_28 (by decide) ?_
    refine g_icmp_ne C 46 dX5_advance_30 (by decide) (fun c27 => ?_) (fun c27 => ?_)
    · replace h := it_f c27 h
      obtain ⟨r28, h, hy⟩ := ex_of h
      rw [hx1 r28 hy] at h
      exact hj46 h
    · replace h := it_t c27 h
      refine g_aload_n C dX5_advance_33 rfl 0 rfl ?_
      refine g_dup C dX5_advance_34 rfl ?_
      refine g_get C 5 22 gin5 0 rfl rfl 3 (by decide) mw_1_42 rfl rfl dX5_advance_35 ?_
      refine g_iconst C 1 dX5_advance_38 (by decide) ?_
      refine g_iadd C dX5_advance_39 ?_
      refine g_put C 5 22 gin5 tyX5 tyX5_ok nmX5 0 rfl rfl 3 (by decide) mw_1_42 rfl rfl (ty := .int) (by decide +kernel) rfl rfl (Nat.le_of_ble_eq_true rfl) [(a0, .inr (5, [.ref a0_bytes, .int (q5_length o0), .int (q5_kind o0), .int (v1 + 1), .int (q5_end o0)])), (a0_bytes, .inl (zI Z, 300, .inl (q5_bytes o0)))] rfl dX5_advance_40 ?_
      refine g_goto C 8 dX5_advance_43 (by decide) ?_
      exact hk1 (v1 + 1) (Option.some.inj h).symm
def fX5_numberHere_L30 (o0 : OX5) (v3 : Int32 × Int32) : Option ((Int32 × Int32) ⊕ (Int32)) :=
  if (q5_end o0) ≤ v3.2 then (ex (some v3.1))
  else (ck (okI v3.2 300) (some (.inl ((((10 * v3.1) + ((q5_bytes o0) (ix v3.2))) - 48), (v3.2 + 1)))))
def fX5_numberHere (o0 : OX5) : Option (Int32) :=
  if (q5_kind o0) = 2 then (if ((q5_end o0) - (q5_start o0)) ≤ 4 then (lp (fX5_numberHere_L30 o0) lpN (0, (q5_start o0)))
  else (some (-1)))
  else (some (-1))
theorem myX5_numberHere : MYv yX5_numberHere cX5_numberHere 3 (some .int) 0 := ⟨mw_2_89, ms_6, mw_2_90, mw_1_2, ⟨by decide +kernel, by decide +kernel⟩, by decide +kernel⟩
set_option maxRecDepth 100000 in
set_option maxHeartbeats 4000000 in
theorem kX5_numberHere (l : Launch) (Z : GZ) (a0 a0_bytes : Nat) (o0 : OX5) (res : Int32) (h : fX5_numberHere o0 = some res) : MI l Z yX5_numberHere cX5_numberHere 3 .int 0 0 [.ref a0] [(a0, .inr (5, [.ref a0_bytes, .int (q5_length o0), .int (q5_kind o0), .int (q5_start o0), .int (q5_end o0)])), (a0_bytes, .inl (zI Z, 300, .inl (q5_bytes o0)))] res [(a0, .inr (5, [.ref a0_bytes, .int (q5_length o0), .int (q5_kind o0), .int (q5_start o0), .int (q5_end o0)])), (a0_bytes, .inl (zI Z, 300, .inl (q5_bytes o0)))] := by
  refine MI_of (by decide +kernel) (Nat.le_of_ble_eq_true rfl) (fun {p e s m args below meth c} A R hR Q hQ C hr hlk => ?_)
  unfold fX5_numberHere at h
  refine g_lv [0] [(0, .ref a0)] rfl ?_
  refine g_aload_n C dX5_numberHere_0 rfl 0 rfl ?_
  refine g_get C 5 19 gin5 0 rfl rfl 2 (by decide) mw_1_41 rfl rfl dX5_numberHere_1 ?_
  refine g_iconst C 2 dX5_numberHere_4 (by decide) ?_
  refine g_icmp_ne C 21 dX5_numberHere_5 (by decide) (fun c1 => ?_) (fun c1 => ?_)
  · replace h := it_f c1 h
    refine g_iconst C (-1) dX5_numberHere_21 (by decide) ?_
    obtain rfl := Option.some.inj h
    subst hQ
    exact g_iret C rfl hr hlk dX5_numberHere_22 [0, 1] rfl (by decide)
  · replace h := it_t c1 h
    refine g_aload_n C dX5_numberHere_8 rfl 0 rfl ?_
    refine g_get C 5 25 gin5 0 rfl rfl 4 (by decide) mw_1_43 rfl rfl dX5_numberHere_9 ?_
    refine g_aload_n C dX5_numberHere_12 rfl 0 rfl ?_
    refine g_get C 5 22 gin5 0 rfl rfl 3 (by decide) mw_1_42 rfl rfl dX5_numberHere_13 ?_
    refine g_isub C dX5_numberHere_16 ?_
    refine g_iconst C 4 dX5_numberHere_17 (by decide) ?_
    refine g_icmp_le C 23 dX5_numberHere_18 (by decide) (fun c2 => ?_) (fun c2 => ?_)
    · replace h := it_t c2 h
      refine g_iconst C 0 dX5_numberHere_23 (by decide) ?_
      refine g_istore_n C dX5_numberHere_24 rfl (by decide) [(1, .int 0), (0, .ref a0)] rfl ?_
      refine g_aload_n C dX5_numberHere_25 rfl 1 rfl ?_
      refine g_get C 5 22 gin5 0 rfl rfl 3 (by decide) mw_1_42 rfl rfl dX5_numberHere_26 ?_
      refine g_istore_n C dX5_numberHere_29 rfl (by decide) [(2, .int (q5_start o0)), (1, .int 0), (0, .ref a0)] rfl ?_
      refine g_lv [2, 1, 0] [(0, .ref a0), (1, .int 0), (2, .int (q5_start o0))] rfl ?_
      refine g_loop (lvf := fun v3 => [(0, .ref a0), (1, .int v3.1), (2, .int v3.2)]) (wsf := fun v3 => [(a0, .inr (5, [.ref a0_bytes, .int (q5_length o0), .int (q5_kind o0), .int (q5_start o0), .int (q5_end o0)])), (a0_bytes, .inl (zI Z, 300, .inl (q5_bytes o0)))]) h (fun v3 y1 h hk1 hx1 => ?_)
      refine g_eq (lv1 := [(0, .ref a0), (1, .int v3.1), (2, .int v3.2)]) (st1 := []) (ws1 := [(a0, .inr (5, [.ref a0_bytes, .int (q5_length o0), .int (q5_kind o0), .int (q5_start o0), .int (q5_end o0)])), (a0_bytes, .inl (zI Z, 300, .inl (q5_bytes o0)))]) rfl rfl rfl rfl ?_
      unfold fX5_numberHere_L30 at h
      refine g_iload_n C dX5_numberHere_30 rfl 2 rfl ?_
      refine g_aload_n C dX5_numberHere_31 rfl 0 rfl ?_
      refine g_get C 5 25 gin5 0 rfl rfl 4 (by decide) mw_1_43 rfl rfl dX5_numberHere_32 ?_
      refine g_icmp_ge C 59 dX5_numberHere_35 (by decide) (fun c4 => ?_) (fun c4 => ?_)
      · replace h := it_t c4 h
        obtain ⟨r5, h, hy⟩ := ex_of h
        rw [hx1 r5 hy] at h
        refine g_iload_n C dX5_numberHere_59 rfl 1 rfl ?_
        obtain rfl := Option.some.inj h
        subst hQ
        exact g_iret C rfl hr hlk dX5_numberHere_60 [0, 1] rfl (by decide)
      · replace h := it_f c4 h
        refine g_bipush C 10 dX5_numberHere_38 (by decide) ?_
        refine g_iload_n C dX5_numberHere_40 rfl 1 rfl ?_
        refine g_imul C dX5_numberHere_41 ?_
        refine g_aload_n C dX5_numberHere_42 rfl 0 rfl ?_
        refine g_get C 5 9 gin5 0 rfl rfl 0 (by decide) mw_1_38 rfl rfl dX5_numberHere_43 ?_
        refine g_iload_n C dX5_numberHere_46 rfl 2 rfl ?_
        obtain ⟨hi6, h⟩ := ck_of h
        refine g_iald C 1 rfl hi6 dX5_numberHere_47 ?_
        refine g_iadd C dX5_numberHere_48 ?_
        refine g_bipush C 48 dX5_numberHere_49 (by decide) ?_
        refine g_isub C dX5_numberHere_51 ?_
        refine g_istore_n C dX5_numberHere_52 rfl (by decide) [(1, .int (((10 * v3.1) + ((q5_bytes o0) (ix v3.2))) - 48)), (0, .ref a0), (2, .int v3.2)] rfl ?_
        refine g_iinc C (v3.2 + 1) dX5_numberHere_53 2 rfl rfl (by decide) [(2, .int (v3.2 + 1)), (1, .int (((10 * v3.1) + ((q5_bytes o0) (ix v3.2))) - 48)), (0, .ref a0)] rfl ?_
        refine g_goto C 30 dX5_numberHere_56 (by decide) ?_
        refine g_lv [2, 1, 0] [(0, .ref a0), (1, .int (((10 * v3.1) + ((q5_bytes o0) (ix v3.2))) - 48)), (2, .int (v3.2 + 1))] rfl ?_
        exact hk1 ((((10 * v3.1) + ((q5_bytes o0) (ix v3.2))) - 48), (v3.2 + 1)) (Option.some.inj h).symm
    · replace h := it_f c2 h
      refine g_iconst C (-1) dX5_numberHere_21 (by decide) ?_
      obtain rfl := Option.some.inj h
      subst hQ
      exact g_iret C rfl hr hlk dX5_numberHere_22 [0, 1] rfl (by decide)
def fX5_isHere_L28 (o0 : OX5) (w1 : Nat) (v3 : Int32) : Option ((Int32) ⊕ (Int32)) :=
  if (nI (sLen.getD w1 0)) ≤ v3 then (ex (some 1))
  else (ck (okI ((q5_start o0) + v3) 300) (ck (okI v3 (sLen.getD w1 0)) (if ((q5_bytes o0) (ix ((q5_start o0) + v3))) = (sCh w1 (ix v3)) then (some (.inl (v3 + 1)))
  else (ex (some 0)))))
def fX5_isHere (o0 : OX5) (w1 : Nat) : Option (Int32) :=
  ck (okW w1) (if (q5_kind o0) = 1 then (if ((q5_end o0) - (q5_start o0)) = (nI (sLen.getD w1 0)) then (lp (fX5_isHere_L28 o0 w1) lpN 0)
  else (some 0))
  else (some 0))
theorem myX5_isHere : MYv yX5_isHere cX5_isHere 3 (some .boolean) 1 := ⟨mw_2_33, ms_5, mw_2_34, mw_1_2, ⟨by decide +kernel, by decide +kernel⟩, by decide +kernel⟩
set_option maxRecDepth 100000 in
set_option maxHeartbeats 4000000 in
theorem kX5_isHere (l : Launch) (hst : l.stackTraces = false) (Z : GZ) (Y : YZ) (a0 a0_bytes : Nat) (o0 : OX5) (w1 : Nat) (res : Int32) (h : fX5_isHere o0 w1 = some res) : XI l Z Y yX5_isHere cX5_isHere 3 .boolean 4 85 0 0 [.ref a0, .ref (Y.1 w1)] [(a0, .inr (5, [.ref a0_bytes, .int (q5_length o0), .int (q5_kind o0), .int (q5_start o0), .int (q5_end o0)])), (a0_bytes, .inl (zI Z, 300, .inl (q5_bytes o0)))] (.inr res) [(a0, .inr (5, [.ref a0_bytes, .int (q5_length o0), .int (q5_kind o0), .int (q5_start o0), .int (q5_end o0)])), (a0_bytes, .inl (zI Z, 300, .inl (q5_bytes o0)))] := by
  refine XI_of hst (by decide +kernel) (Nat.le_of_ble_eq_true rfl) (fun {p e s m args below meth c} A R hR Q hQ C D hr => ?_)
  unfold fX5_isHere at h
  refine g_lv [0, 1] [(0, .ref a0), (1, .ref (Y.1 w1))] rfl ?_
  obtain ⟨hw1, h⟩ := ck_of h
  replace hw1 := okW_lt hw1
  refine g_aload_n C dX5_isHere_0 rfl 0 rfl ?_
  refine g_get C 5 19 gin5 0 rfl rfl 2 (by decide) mw_1_41 rfl rfl dX5_isHere_1 ?_
  refine g_iconst C 1 dX5_isHere_4 (by decide) ?_
  refine g_icmp_ne C 24 dX5_isHere_5 (by decide) (fun c1 => ?_) (fun c1 => ?_)
  · replace h := it_f c1 h
    refine g_iconst C 0 dX5_isHere_24 (by decide) ?_
    obtain rfl := Option.some.inj h
    subst hQ
    exact gx_iret C D rfl rfl hr (Nat.le_of_ble_eq_true rfl) (Nat.le_of_ble_eq_true rfl) dX5_isHere_25 [0, 1] rfl (by decide)
  · replace h := it_t c1 h
    refine g_aload_n C dX5_isHere_8 rfl 0 rfl ?_
    refine g_get C 5 25 gin5 0 rfl rfl 4 (by decide) mw_1_43 rfl rfl dX5_isHere_9 ?_
    refine g_aload_n C dX5_isHere_12 rfl 0 rfl ?_
    refine g_get C 5 22 gin5 0 rfl rfl 3 (by decide) mw_1_42 rfl rfl dX5_isHere_13 ?_
    refine g_isub C dX5_isHere_16 ?_
    refine g_aload_n C dX5_isHere_17 rfl 1 rfl ?_
    refine gx_callVi C D (kJ0_length l hst Z Y w1 hw1) (g_recvS D hw1) myJ0_length_8abf5 82 mw_2_35 rfl [] [0, 1] [0, 1] (wr := [(a0, .inr (5, [.ref a0_bytes, .int (q5_length o0), .int (q5_kind o0), .int (q5_start o0), .int (q5_end o0)])), (a0_bytes, .inl (zI Z, 300, .inl (q5_bytes o0)))]) rfl rfl (by decide) (by decide) (by decide) [(a0, .inr (5, [.ref a0_bytes, .int (q5_length o0), .int (q5_kind o0), .int (q5_start o0), .int (q5_end o0)])), (a0_bytes, .inl (zI Z, 300, .inl (q5_bytes o0)))] rfl (by decide) (Nat.le_of_ble_eq_true rfl) (by rw [hR]; exact Nat.le_of_ble_eq_true rfl) (by rw [hR]; exact Nat.le_of_ble_eq_true rfl) ⟨by rw [hR]; exact Nat.le_of_ble_eq_true rfl, by rw [hR]; exact Nat.le_of_ble_eq_true rfl⟩ rfl dX5_isHere_18 ?_
    refine g_icmp_eq C 26 dX5_isHere_21 (by decide) (fun c2 => ?_) (fun c2 => ?_)
    · replace h := it_t c2 h
      refine g_iconst C 0 dX5_isHere_26 (by decide) ?_
      refine g_istore_n C dX5_isHere_27 rfl (by decide) [(2, .int 0), (0, .ref a0), (1, .ref (Y.1 w1))] rfl ?_
      refine g_lv [1, 2, 0] [(0, .ref a0), (1, .ref (Y.1 w1)), (2, .int 0)] rfl ?_
      refine g_loop (lvf := fun v3 => [(0, .ref a0), (1, .ref (Y.1 w1)), (2, .int v3)]) (wsf := fun v3 => [(a0, .inr (5, [.ref a0_bytes, .int (q5_length o0), .int (q5_kind o0), .int (q5_start o0), .int (q5_end o0)])), (a0_bytes, .inl (zI Z, 300, .inl (q5_bytes o0)))]) h (fun v3 y1 h hk1 hx1 => ?_)
      refine g_eq (lv1 := [(0, .ref a0), (1, .ref (Y.1 w1)), (2, .int v3)]) (st1 := []) (ws1 := [(a0, .inr (5, [.ref a0_bytes, .int (q5_length o0), .int (q5_kind o0), .int (q5_start o0), .int (q5_end o0)])), (a0_bytes, .inl (zI Z, 300, .inl (q5_bytes o0)))]) rfl rfl rfl rfl ?_
      unfold fX5_isHere_L28 at h
      refine g_iload_n C dX5_isHere_28 rfl 2 rfl ?_
      refine g_aload_n C dX5_isHere_29 rfl 1 rfl ?_
      refine gx_callVi C D (kJ0_length l hst Z Y w1 hw1) (g_recvS D hw1) myJ0_length_8abf5 82 mw_2_35 rfl [] [0, 1] [0, 1] (wr := [(a0, .inr (5, [.ref a0_bytes, .int (q5_length o0), .int (q5_kind o0), .int (q5_start o0), .int (q5_end o0)])), (a0_bytes, .inl (zI Z, 300, .inl (q5_bytes o0)))]) rfl rfl (by decide) (by decide) (by decide) [(a0, .inr (5, [.ref a0_bytes, .int (q5_length o0), .int (q5_kind o0), .int (q5_start o0), .int (q5_end o0)])), (a0_bytes, .inl (zI Z, 300, .inl (q5_bytes o0)))] rfl (by decide) (Nat.le_of_ble_eq_true rfl) (by rw [hR]; exact Nat.le_of_ble_eq_true rfl) (by rw [hR]; exact Nat.le_of_ble_eq_true rfl) ⟨by rw [hR]; exact Nat.le_of_ble_eq_true rfl, by rw [hR]; exact Nat.le_of_ble_eq_true rfl⟩ rfl dX5_isHere_30 ?_
      refine g_icmp_ge C 63 dX5_isHere_33 (by decide) (fun c4 => ?_) (fun c4 => ?_)
      · replace h := it_t c4 h
        obtain ⟨r5, h, hy⟩ := ex_of h
        rw [hx1 r5 hy] at h
        refine g_iconst C 1 dX5_isHere_63 (by decide) ?_
        obtain rfl := Option.some.inj h
        subst hQ
        exact gx_iret C D rfl rfl hr (Nat.le_of_ble_eq_true rfl) (Nat.le_of_ble_eq_true rfl) dX5_isHere_64 [0, 1] rfl (by decide)
      · replace h := it_f c4 h
        refine g_aload_n C dX5_isHere_36 rfl 0 rfl ?_
        refine g_get C 5 9 gin5 0 rfl rfl 0 (by decide) mw_1_38 rfl rfl dX5_isHere_37 ?_
        refine g_aload_n C dX5_isHere_40 rfl 0 rfl ?_
        refine g_get C 5 22 gin5 0 rfl rfl 3 (by decide) mw_1_42 rfl rfl dX5_isHere_41 ?_
        refine g_iload_n C dX5_isHere_44 rfl 2 rfl ?_
        refine g_iadd C dX5_isHere_45 ?_
        obtain ⟨hi6, h⟩ := ck_of h
        refine g_iald C 1 rfl hi6 dX5_isHere_46 ?_
        refine g_aload_n C dX5_isHere_47 rfl 1 rfl ?_
        refine g_iload_n C dX5_isHere_48 rfl 2 rfl ?_
        obtain ⟨hi7, h⟩ := ck_of h
        refine gx_callVi C D (kJ0_charAt l hst Z Y w1 hw1 v3 hi7) (g_recvS D hw1) myJ0_charAt_5068e 86 mw_2_45 rfl [] [0, 1] [0, 1] (wr := [(a0, .inr (5, [.ref a0_bytes, .int (q5_length o0), .int (q5_kind o0), .int (q5_start o0), .int (q5_end o0)])), (a0_bytes, .inl (zI Z, 300, .inl (q5_bytes o0)))]) rfl rfl (by decide) (by decide) (by decide) [(a0, .inr (5, [.ref a0_bytes, .int (q5_length o0), .int (q5_kind o0), .int (q5_start o0), .int (q5_end o0)])), (a0_bytes, .inl (zI Z, 300, .inl (q5_bytes o0)))] rfl (by decide) (Nat.le_of_ble_eq_true rfl) (by rw [hR]; exact Nat.le_of_ble_eq_true rfl) (by rw [hR]; exact Nat.le_of_ble_eq_true rfl) ⟨by rw [hR]; exact Nat.le_of_ble_eq_true rfl, by rw [hR]; exact Nat.le_of_ble_eq_true rfl⟩ rfl dX5_isHere_49 ?_
        refine g_icmp_eq C 57 dX5_isHere_52 (by decide) (fun c8 => ?_) (fun c8 => ?_)
        · replace h := it_t c8 h
          refine g_iinc C (v3 + 1) dX5_isHere_57 2 rfl rfl (by decide) [(2, .int (v3 + 1)), (0, .ref a0), (1, .ref (Y.1 w1))] rfl ?_
          refine g_goto C 28 dX5_isHere_60 (by decide) ?_
          refine g_lv [1, 2, 0] [(0, .ref a0), (1, .ref (Y.1 w1)), (2, .int (v3 + 1))] rfl ?_
          exact hk1 (v3 + 1) (Option.some.inj h).symm
        · replace h := it_f c8 h
          obtain ⟨r9, h, hy⟩ := ex_of h
          rw [hx1 r9 hy] at h
          refine g_iconst C 0 dX5_isHere_55 (by decide) ?_
          obtain rfl := Option.some.inj h
          subst hQ
          exact gx_iret C D rfl rfl hr (Nat.le_of_ble_eq_true rfl) (Nat.le_of_ble_eq_true rfl) dX5_isHere_56 [0, 1] rfl (by decide)
    · replace h := it_f c2 h
      refine g_iconst C 0 dX5_isHere_24 (by decide) ?_
      obtain rfl := Option.some.inj h
      subst hQ
      exact gx_iret C D rfl rfl hr (Nat.le_of_ble_eq_true rfl) (Nat.le_of_ble_eq_true rfl) dX5_isHere_25 [0, 1] rfl (by decide)
def fX5_shapeHere (o0 : OX5) : Option (Int32) :=
  (fX5_isHere o0 0).bind fun r1 =>
  (if r1 = 0 then ((fX5_isHere o0 1).bind fun r4 =>
  (if r4 = 0 then ((fX5_isHere o0 2).bind fun r7 =>
  (if r7 = 0 then ((fX5_isHere o0 3).bind fun r10 =>
  (if r10 = 0 then ((fX5_isHere o0 4).bind fun r13 =>
  (if r13 = 0 then (some (-1))
  else (some 4)))
  else (some 3)))
  else (some 2)))
  else (some 1)))
  else (some 0))
theorem myX5_shapeHere : MYv yX5_shapeHere cX5_shapeHere 1 (some .int) 0 := ⟨mw_2_28, ms_4, mw_2_29, mw_1_2, ⟨by decide +kernel, by decide +kernel⟩, by decide +kernel⟩
set_option maxRecDepth 100000 in
set_option maxHeartbeats 4000000 in
theorem kX5_shapeHere (l : Launch) (hst : l.stackTraces = false) (Z : GZ) (Y : YZ) (a0 a0_bytes : Nat) (o0 : OX5) (res : Int32) (h : fX5_shapeHere o0 = some res) : XI l Z Y yX5_shapeHere cX5_shapeHere 1 .int 5 107 0 0 [.ref a0] [(a0, .inr (5, [.ref a0_bytes, .int (q5_length o0), .int (q5_kind o0), .int (q5_start o0), .int (q5_end o0)])), (a0_bytes, .inl (zI Z, 300, .inl (q5_bytes o0)))] (.inr res) [(a0, .inr (5, [.ref a0_bytes, .int (q5_length o0), .int (q5_kind o0), .int (q5_start o0), .int (q5_end o0)])), (a0_bytes, .inl (zI Z, 300, .inl (q5_bytes o0)))] := by
  refine XI_of hst (by decide +kernel) (Nat.le_of_ble_eq_true rfl) (fun {p e s m args below meth c} A R hR Q hQ C D hr => ?_)
  unfold fX5_shapeHere at h
  refine g_lv [0] [(0, .ref a0)] rfl ?_
  refine g_aload_n C dX5_shapeHere_0 rfl 0 rfl ?_
  refine gx_ldcs C 73 ((D.1.2.1 0 (by decide)).1) dX5_shapeHere_1 ?_
  obtain ⟨r1, hr2, h⟩ := bd_of h
  refine gx_callVi C D (kX5_isHere l hst Z Y a0 a0_bytes o0 0 r1 hr2) (g_recv C 0 rfl (ci := 5) rfl rfl) myX5_isHere 57 mw_2_31 rfl [0, 1] [] [0, 1] (wr := []) rfl rfl (by decide) (by decide) (by decide) [(a0, .inr (5, [.ref a0_bytes, .int (q5_length o0), .int (q5_kind o0), .int (q5_start o0), .int (q5_end o0)])), (a0_bytes, .inl (zI Z, 300, .inl (q5_bytes o0)))] rfl (by decide) (Nat.le_of_ble_eq_true rfl) (by rw [hR]; exact Nat.le_of_ble_eq_true rfl) (by rw [hR]; exact Nat.le_of_ble_eq_true rfl) ⟨by rw [hR]; exact Nat.le_of_ble_eq_true rfl, by rw [hR]; exact Nat.le_of_ble_eq_true rfl⟩ rfl dX5_shapeHere_3 ?_
  refine g_if_eq C 11 dX5_shapeHere_6 (by decide) (fun c3 => ?_) (fun c3 => ?_)
  · replace h := it_t c3 h
    refine g_aload_n C dX5_shapeHere_11 rfl 0 rfl ?_
    refine gx_ldcs C 74 ((D.1.2.1 1 (by decide)).1) dX5_shapeHere_12 ?_
    obtain ⟨r4, hr5, h⟩ := bd_of h
    refine gx_callVi C D (kX5_isHere l hst Z Y a0 a0_bytes o0 1 r4 hr5) (g_recv C 0 rfl (ci := 5) rfl rfl) myX5_isHere 57 mw_2_31 rfl [0, 1] [] [0, 1] (wr := []) rfl rfl (by decide) (by decide) (by decide) [(a0, .inr (5, [.ref a0_bytes, .int (q5_length o0), .int (q5_kind o0), .int (q5_start o0), .int (q5_end o0)])), (a0_bytes, .inl (zI Z, 300, .inl (q5_bytes o0)))] rfl (by decide) (Nat.le_of_ble_eq_true rfl) (by rw [hR]; exact Nat.le_of_ble_eq_true rfl) (by rw [hR]; exact Nat.le_of_ble_eq_true rfl) ⟨by rw [hR]; exact Nat.le_of_ble_eq_true rfl, by rw [hR]; exact Nat.le_of_ble_eq_true rfl⟩ rfl dX5_shapeHere_14 ?_
    refine g_if_eq C 22 dX5_shapeHere_17 (by decide) (fun c6 => ?_) (fun c6 => ?_)
    · replace h := it_t c6 h
      refine g_aload_n C dX5_shapeHere_22 rfl 0 rfl ?_
      refine gx_ldcs C 76 ((D.1.2.1 2 (by decide)).1) dX5_shapeHere_23 ?_
      obtain ⟨r7, hr8, h⟩ := bd_of h
      refine gx_callVi C D (kX5_isHere l hst Z Y a0 a0_bytes o0 2 r7 hr8) (g_recv C 0 rfl (ci := 5) rfl rfl) myX5_isHere 57 mw_2_31 rfl [0, 1] [] [0, 1] (wr := []) rfl rfl (by decide) (by decide) (by decide) [(a0, .inr (5, [.ref a0_bytes, .int (q5_length o0), .int (q5_kind o0), .int (q5_start o0), .int (q5_end o0)])), (a0_bytes, .inl (zI Z, 300, .inl (q5_bytes o0)))] rfl (by decide) (Nat.le_of_ble_eq_true rfl) (by rw [hR]; exact Nat.le_of_ble_eq_true rfl) (by rw [hR]; exact Nat.le_of_ble_eq_true rfl) ⟨by rw [hR]; exact Nat.le_of_ble_eq_true rfl, by rw [hR]; exact Nat.le_of_ble_eq_true rfl⟩ rfl dX5_shapeHere_25 ?_
      refine g_if_eq C 33 dX5_shapeHere_28 (by decide) (fun c9 => ?_) (fun c9 => ?_)
      · replace h := it_t c9 h
        refine g_aload_n C dX5_shapeHere_33 rfl 0 rfl ?_
        refine gx_ldcs C 78 ((D.1.2.1 3 (by decide)).1) dX5_shapeHere_34 ?_
        obtain ⟨r10, hr11, h⟩ := bd_of h
        refine gx_callVi C D (kX5_isHere l hst Z Y a0 a0_bytes o0 3 r10 hr11) (g_recv C 0 rfl (ci := 5) rfl rfl) myX5_isHere 57 mw_2_31 rfl [0, 1] [] [0, 1] (wr := []) rfl rfl (by decide) (by decide) (by decide) [(a0, .inr (5, [.ref a0_bytes, .int (q5_length o0), .int (q5_kind o0), .int (q5_start o0), .int (q5_end o0)])), (a0_bytes, .inl (zI Z, 300, .inl (q5_bytes o0)))] rfl (by decide) (Nat.le_of_ble_eq_true rfl) (by rw [hR]; exact Nat.le_of_ble_eq_true rfl) (by rw [hR]; exact Nat.le_of_ble_eq_true rfl) ⟨by rw [hR]; exact Nat.le_of_ble_eq_true rfl, by rw [hR]; exact Nat.le_of_ble_eq_true rfl⟩ rfl dX5_shapeHere_36 ?_
        refine g_if_eq C 44 dX5_shapeHere_39 (by decide) (fun c12 => ?_) (fun c12 => ?_)
        · replace h := it_t c12 h
          refine g_aload_n C dX5_shapeHere_44 rfl 0 rfl ?_
          refine gx_ldcs C 80 ((D.1.2.1 4 (by decide)).1) dX5_shapeHere_45 ?_
          obtain ⟨r13, hr14, h⟩ := bd_of h
          refine gx_callVi C D (kX5_isHere l hst Z Y a0 a0_bytes o0 4 r13 hr14) (g_recv C 0 rfl (ci := 5) rfl rfl) myX5_isHere 57 mw_2_31 rfl [0, 1] [] [0, 1] (wr := []) rfl rfl (by decide) (by decide) (by decide) [(a0, .inr (5, [.ref a0_bytes, .int (q5_length o0), .int (q5_kind o0), .int (q5_start o0), .int (q5_end o0)])), (a0_bytes, .inl (zI Z, 300, .inl (q5_bytes o0)))] rfl (by decide) (Nat.le_of_ble_eq_true rfl) (by rw [hR]; exact Nat.le_of_ble_eq_true rfl) (by rw [hR]; exact Nat.le_of_ble_eq_true rfl) ⟨by rw [hR]; exact Nat.le_of_ble_eq_true rfl, by rw [hR]; exact Nat.le_of_ble_eq_true rfl⟩ rfl dX5_shapeHere_47 ?_
          refine g_if_eq C 57 dX5_shapeHere_50 (by decide) (fun c15 => ?_) (fun c15 => ?_)
          · replace h := it_t c15 h
            refine g_iconst C (-1) dX5_shapeHere_57 (by decide) ?_
            obtain rfl := Option.some.inj h
            subst hQ
            exact gx_iret C D rfl rfl hr (Nat.le_of_ble_eq_true rfl) (Nat.le_of_ble_eq_true rfl) dX5_shapeHere_58 [0, 1] rfl (by decide)
          · replace h := it_f c15 h
            refine g_iconst C 4 dX5_shapeHere_53 (by decide) ?_
            refine g_goto C 58 dX5_shapeHere_54 (by decide) ?_
            obtain rfl := Option.some.inj h
            subst hQ
            exact gx_iret C D rfl rfl hr (Nat.le_of_ble_eq_true rfl) (Nat.le_of_ble_eq_true rfl) dX5_shapeHere_58 [0, 1] rfl (by decide)
        · replace h := it_f c12 h
          refine g_iconst C 3 dX5_shapeHere_42 (by decide) ?_
          obtain rfl := Option.some.inj h
          subst hQ
          exact gx_iret C D rfl rfl hr (Nat.le_of_ble_eq_true rfl) (Nat.le_of_ble_eq_true rfl) dX5_shapeHere_43 [0, 1] rfl (by decide)
      · replace h := it_f c9 h
        refine g_iconst C 2 dX5_shapeHere_31 (by decide) ?_
        obtain rfl := Option.some.inj h
        subst hQ
        exact gx_iret C D rfl rfl hr (Nat.le_of_ble_eq_true rfl) (Nat.le_of_ble_eq_true rfl) dX5_shapeHere_32 [0, 1] rfl (by decide)
    · replace h := it_f c6 h
      refine g_iconst C 1 dX5_shapeHere_20 (by decide) ?_
      obtain rfl := Option.some.inj h
      subst hQ
      exact gx_iret C D rfl rfl hr (Nat.le_of_ble_eq_true rfl) (Nat.le_of_ble_eq_true rfl) dX5_shapeHere_21 [0, 1] rfl (by decide)
  · replace h := it_f c3 h
    refine g_iconst C 0 dX5_shapeHere_9 (by decide) ?_
    obtain rfl := Option.some.inj h
    subst hQ
    exact gx_iret C D rfl rfl hr (Nat.le_of_ble_eq_true rfl) (Nat.le_of_ble_eq_true rfl) dX5_shapeHere_10 [0, 1] rfl (by decide)
def fX5_laySimplex_L7 (p0 : Int32) (o1 : OX2) (r1 : OX2) (v3 : Int32 × Int32 × (Nat → Int32)) : Option ((Int32 × Int32 × (Nat → Int32)) ⊕ (OX2)) :=
  if p0 ≤ v3.1 then (ex (some (s2_facets (s2_points (s2_sets o1 v3.2.2) (q2_points r1)) v3.2.1)))
  else ((fX2_allPoints (s2_facets (s2_points (s2_sets o1 v3.2.2) (q2_points r1)) v3.2.1)).bind fun r6 =>
  ((fX2_add (s2_facets (s2_points (s2_sets o1 v3.2.2) (q2_points r1)) v3.2.1) (r6 &&& ((jshl 1 v3.1) ^^^ (-1)))).bind fun r8 =>
  (some (.inl ((v3.1 + 1), (q2_facets r8), (q2_sets r8))))))
def fX5_laySimplex (p0 : Int32) (o1 : OX2) : Option (OX2) :=
  (fX2_clear o1 p0).bind fun r1 =>
  (lp (fX5_laySimplex_L7 p0 o1 r1) lpN (0, (q2_facets r1), (q2_sets o1)))
theorem myX5_laySimplex : MYs yX5_laySimplex cX5_laySimplex 3 none 2 := ⟨mw_2_99, mw_2_100, mw_1_2, ⟨by decide +kernel, by decide +kernel⟩, by decide +kernel⟩
set_option maxRecDepth 100000 in
set_option maxHeartbeats 4000000 in
theorem kX5_laySimplex (l : Launch) (Z : GZ) (a1 a1_sets : Nat) (p0 : Int32) (o1 : OX2) (res : OX2) (h : fX5_laySimplex p0 o1 = some res) : MV l Z yX5_laySimplex cX5_laySimplex 3 1 21 [.int p0, .ref a1] [(a1, .inr (2, [.ref a1_sets, .int (q2_points o1), .int (q2_facets o1)])), (a1_sets, .inl (zI Z, 10, .inl (q2_sets o1)))] [(a1, .inr (2, [.ref a1_sets, .int (q2_points res), .int (q2_facets res)])), (a1_sets, .inl (zI Z, 10, .inl (q2_sets res)))] := by
  refine MV_of (by decide +kernel) (Nat.le_of_ble_eq_true rfl) (fun {p e s m args below meth c} A R hR Q hQ C hr hlk => ?_)
  unfold fX5_laySimplex at h
  refine g_lv [0, 1] [(0, .int p0), (1, .ref a1)] rfl ?_
  refine g_aload_n C dX5_laySimplex_0 rfl 1 rfl ?_
  refine g_iload_n C dX5_laySimplex_1 rfl 0 rfl ?_
  obtain ⟨r1, hr2, h⟩ := bd_of h
  refine g_callVv C (kX2_clear l Z a1 a1_sets o1 p0 r1 hr2) 0 rfl (ci := 2) rfl rfl myX2_clear 107 mw_2_101 rfl [0] [1] [1, 0] (wr := [(a1_sets, .inl (zI Z, 10, .inl (q2_sets o1)))]) rfl rfl (by decide) (by decide) (by decide) [(a1, .inr (2, [.ref a1_sets, .int (q2_points r1), .int (q2_facets r1)])), (a1_sets, .inl (zI Z, 10, .inl (q2_sets o1)))] rfl (by decide) (Nat.le_of_ble_eq_true rfl) (by rw [hR]; exact Nat.le_of_ble_eq_true rfl) (by rw [hR]; exact Nat.le_of_ble_eq_true rfl) ⟨by rw [hR]; exact Nat.le_of_ble_eq_true rfl, by rw [hR]; exact Nat.le_of_ble_eq_true rfl⟩ rfl dX5_laySimplex_2 ?_
  refine g_iconst C 0 dX5_laySimplex_5 (by decide) ?_
  refine g_istore_n C dX5_laySimplex_6 rfl (by decide) [(2, .int 0), (0, .int p0), (1, .ref a1)] rfl ?_
  refine g_lv [1, 2, 0] [(0, .int p0), (1, .ref a1), (2, .int 0)] rfl ?_
  refine g_loop (lvf := fun v3 => [(0, .int p0), (1, .ref a1), (2, .int v3.1)]) (wsf := fun v3 => [(a1, .inr (2, [.ref a1_sets, .int (q2_points r1), .int v3.2.1])), (a1_sets, .inl (zI Z, 10, .inl v3.2.2))]) h (fun v3 y1 h hk1 hx1 => ?_)
  refine g_eq (lv1 := [(0, .int p0), (1, .ref a1), (2, .int v3.1)]) (st1 := []) (ws1 := [(a1, .inr (2, [.ref a1_sets, .int (q2_points r1), .int v3.2.1])), (a1_sets, .inl (zI Z, 10, .inl v3.2.2))]) rfl rfl rfl rfl ?_
  unfold fX5_laySimplex_L7 at h
  refine g_iload_n C dX5_laySimplex_7 rfl 2 rfl ?_
  refine g_iload_n C dX5_laySimplex_8 rfl 0 rfl ?_
  refine g_icmp_ge C 32 dX5_laySimplex_9 (by decide) (fun c4 => ?_) (fun c4 => ?_)
  · replace h := it_t c4 h
    obtain ⟨r5, h, hy⟩ := ex_of h
    rw [hx1 r5 hy] at h
    obtain rfl := Option.some.inj h
    subst hQ
    exact g_vret C hr hlk dX5_laySimplex_32 [0, 1] rfl (by decide)
  · replace h := it_f c4 h
    refine g_aload_n C dX5_laySimplex_12 rfl 1 rfl ?_
    refine g_aload_n C dX5_laySimplex_13 rfl 1 rfl ?_
    obtain ⟨r6, hr7, h⟩ := bd_of h
    refine g_callVi C (kX2_allPoints l Z a1 a1_sets (s2_facets (s2_points (s2_sets o1 v3.2.2) (q2_points r1)) v3.2.1) r6 hr7) 0 rfl (ci := 2) rfl rfl myX2_allPoints 110 mw_2_105 rfl [0] [1] [1, 0] (wr := [(a1_sets, .inl (zI Z, 10, .inl v3.2.2))]) rfl rfl (by decide) (by decide) (by decide) [(a1, .inr (2, [.ref a1_sets, .int (q2_points r1), .int v3.2.1])), (a1_sets, .inl (zI Z, 10, .inl v3.2.2))] rfl (by decide) (Nat.le_of_ble_eq_true rfl) (by rw [hR]; exact Nat.le_of_ble_eq_true rfl) (by rw [hR]; exact Nat.le_of_ble_eq_true rfl) ⟨by rw [hR]; exact Nat.le_of_ble_eq_true rfl, by rw [hR]; exact Nat.le_of_ble_eq_true rfl⟩ rfl dX5_laySimplex_14 ?_
    refine g_iconst C 1 dX5_laySimplex_17 (by decide) ?_
    refine g_iload_n C dX5_laySimplex_18 rfl 2 rfl ?_
    refine g_ishl C dX5_laySimplex_19 ?_
    refine g_iconst C (-1) dX5_laySimplex_20 (by decide) ?_
    refine g_ixor C dX5_laySimplex_21 ?_
    refine g_iand C dX5_laySimplex_22 ?_
    obtain ⟨r8, hr9, h⟩ := bd_of h
    refine g_callVv C (kX2_add l Z a1 a1_sets (s2_facets (s2_points (s2_sets o1 v3.2.2) (q2_points r1)) v3.2.1) (r6 &&& ((jshl 1 v3.1) ^^^ (-1))) r8 hr9) 0 rfl (ci := 2) rfl rfl myX2_add 69 mw_2_106 rfl [0, 1] [] [0, 1] (wr := []) rfl rfl (by decide) (by decide) (by decide) [(a1, .inr (2, [.ref a1_sets, .int (q2_points r1), .int (q2_facets r8)])), (a1_sets, .inl (zI Z, 10, .inl (q2_sets r8)))] rfl (by decide) (Nat.le_of_ble_eq_true rfl) (by rw [hR]; exact Nat.le_of_ble_eq_true rfl) (by rw [hR]; exact Nat.le_of_ble_eq_true rfl) ⟨by rw [hR]; exact Nat.le_of_ble_eq_true rfl, by rw [hR]; exact Nat.le_of_ble_eq_true rfl⟩ rfl dX5_laySimplex_23 ?_
    refine g_iinc C (v3.1 + 1) dX5_laySimplex_26 2 rfl rfl (by decide) [(2, .int (v3.1 + 1)), (0, .int p0), (1, .ref a1)] rfl ?_
    refine g_goto C 7 dX5_laySimplex_29 (by decide) ?_
    refine g_lv [1, 2, 0] [(0, .int p0), (1, .ref a1), (2, .int (v3.1 + 1))] rfl ?_
    exact hk1 ((v3.1 + 1), (q2_facets r8), (q2_sets r8)) (Option.some.inj h).symm
def fX5_layCycle_J26 (o1 : OX2) (r1 : OX2) (v3 : Int32 × Int32 × (Nat → Int32)) (x6 : Int32) : Option ((Int32 × Int32 × (Nat → Int32)) ⊕ (OX2)) :=
  (fX2_add (s2_facets (s2_points (s2_sets o1 v3.2.2) (q2_points r1)) v3.2.1) ((jshl 1 v3.1) ||| (jshl 1 x6))).bind fun r7 =>
  (some (.inl ((v3.1 + 1), (q2_facets r7), (q2_sets r7))))
def fX5_layCycle_L7 (p0 : Int32) (o1 : OX2) (r1 : OX2) (v3 : Int32 × Int32 × (Nat → Int32)) : Option ((Int32 × Int32 × (Nat → Int32)) ⊕ (OX2)) :=
  if p0 ≤ v3.1 then (ex (some (s2_facets (s2_points (s2_sets o1 v3.2.2) (q2_points r1)) v3.2.1)))
  else (if p0 ≤ (v3.1 + 1) then (fX5_layCycle_J26 o1 r1 v3 0)
  else (fX5_layCycle_J26 o1 r1 v3 (v3.1 + 1)))
def fX5_layCycle (p0 : Int32) (o1 : OX2) : Option (OX2) :=
  (fX2_clear o1 p0).bind fun r1 =>
  (lp (fX5_layCycle_L7 p0 o1 r1) lpN (0, (q2_facets r1), (q2_sets o1)))
theorem myX5_layCycle : MYs yX5_layCycle cX5_layCycle 4 none 2 := ⟨mw_2_111, mw_2_112, mw_1_2, ⟨by decide +kernel, by decide +kernel⟩, by decide +kernel⟩
set_option maxRecDepth 100000 in
set_option maxHeartbeats 4000000 in
theorem kX5_layCycle (l : Launch) (Z : GZ) (a1 a1_sets : Nat) (p0 : Int32) (o1 : OX2) (res : OX2) (h : fX5_layCycle p0 o1 = some res) : MV l Z yX5_layCycle cX5_layCycle 4 1 21 [.int p0, .ref a1] [(a1, .inr (2, [.ref a1_sets, .int (q2_points o1), .int (q2_facets o1)])), (a1_sets, .inl (zI Z, 10, .inl (q2_sets o1)))] [(a1, .inr (2, [.ref a1_sets, .int (q2_points res), .int (q2_facets res)])), (a1_sets, .inl (zI Z, 10, .inl (q2_sets res)))] := by
  refine MV_of (by decide +kernel) (Nat.le_of_ble_eq_true rfl) (fun {p e s m args below meth c} A R hR Q hQ C hr hlk => ?_)
  unfold fX5_layCycle at h
  refine g_lv [0, 1] [(0, .int p0), (1, .ref a1)] rfl ?_
  refine g_aload_n C dX5_layCycle_0 rfl 1 rfl ?_
  refine g_iload_n C dX5_layCycle_1 rfl 0 rfl ?_
  obtain ⟨r1, hr2, h⟩ := bd_of h
  refine g_callVv C (kX2_clear l Z a1 a1_sets o1 p0 r1 hr2) 0 rfl (ci := 2) rfl rfl myX2_clear 107 mw_2_101 rfl [0] [1] [1, 0] (wr := [(a1_sets, .inl (zI Z, 10, .inl (q2_sets o1)))]) rfl rfl (by decide) (by decide) (by decide) [(a1, .inr (2, [.ref a1_sets, .int (q2_points r1), .int (q2_facets r1)])), (a1_sets, .inl (zI Z, 10, .inl (q2_sets o1)))] rfl (by decide) (Nat.le_of_ble_eq_true rfl) (by rw [hR]; exact Nat.le_of_ble_eq_true rfl) (by rw [hR]; exact Nat.le_of_ble_eq_true rfl) ⟨by rw [hR]; exact Nat.le_of_ble_eq_true rfl, by rw [hR]; exact Nat.le_of_ble_eq_true rfl⟩ rfl dX5_layCycle_2 ?_
  refine g_iconst C 0 dX5_layCycle_5 (by decide) ?_
  refine g_istore_n C dX5_layCycle_6 rfl (by decide) [(2, .int 0), (0, .int p0), (1, .ref a1)] rfl ?_
  refine g_lv [1, 2, 0] [(0, .int p0), (1, .ref a1), (2, .int 0)] rfl ?_
  refine g_loop (lvf := fun v3 => [(0, .int p0), (1, .ref a1), (2, .int v3.1)]) (wsf := fun v3 => [(a1, .inr (2, [.ref a1_sets, .int (q2_points r1), .int v3.2.1])), (a1_sets, .inl (zI Z, 10, .inl v3.2.2))]) h (fun v3 y1 h hk1 hx1 => ?_)
  refine g_eq (lv1 := [(0, .int p0), (1, .ref a1), (2, .int v3.1)]) (st1 := []) (ws1 := [(a1, .inr (2, [.ref a1_sets, .int (q2_points r1), .int v3.2.1])), (a1_sets, .inl (zI Z, 10, .inl v3.2.2))]) rfl rfl rfl rfl ?_
  unfold fX5_layCycle_L7 at h
  refine g_iload_n C dX5_layCycle_7 rfl 2 rfl ?_
  refine g_iload_n C dX5_layCycle_8 rfl 0 rfl ?_
  refine g_icmp_ge C 44 dX5_layCycle_9 (by decide) (fun c4 => ?_) (fun c4 => ?_)
  · replace h := it_t c4 h
    obtain ⟨r5, h, hy⟩ := ex_of h
    rw [hx1 r5 hy] at h
    obtain rfl := Option.some.inj h
    subst hQ
    exact g_vret C hr hlk dX5_layCycle_44 [0, 1] rfl (by decide)
  · replace h := it_f c4 h
    refine g_iload_n C dX5_layCycle_12 rfl 2 rfl ?_
    refine g_iconst C 1 dX5_layCycle_13 (by decide) ?_
    refine g_iadd C dX5_layCycle_14 ?_
    refine g_iload_n C dX5_layCycle_15 rfl 0 rfl ?_
    have hj26 : ∀ (x6 : Int32), fX5_layCycle_J26 o1 r1 v3 x6 = some y1 → Gw p l e R s m args below meth c 4 Z A Q 0 0 26 [(0, .int p0), (1, .ref a1), (2, .int v3.1)] [.int x6] [(a1, .inr (2, [.ref a1_sets, .int (q2_points r1), .int v3.2.1])), (a1_sets, .inl (zI Z, 10, .inl v3.2.2))] := by
      intro x6 h
      unfold fX5_layCycle_J26 at h
      refine g_istore_n C dX5_layCycle_26 rfl (by decide) [(3, .int x6), (0, .int p0), (1, .ref a1), (2, .int v3.1)] rfl ?_
      refine g_aload_n C dX5_layCycle_27 rfl 2 rfl ?_
      refine g_iconst C 1 dX5_layCycle_28 (by decide) ?_
      refine g_iload_n C dX5_layCycle_29 rfl 3 rfl ?_
      refine g_ishl C dX5_layCycle_30 ?_
      refine g_iconst C 1 dX5_layCycle_31 (by decide) ?_
      refine g_iload_n C dX5_layCycle_32 rfl 0 rfl ?_
      refine g_ishl C dX5_layCycle_33 ?_
      refine g_ior C dX5_layCycle_34 ?_
      obtain ⟨r7, hr8, h⟩ := bd_of h
      refine g_callVv C (kX2_add l Z a1 a1_sets (s2_facets (s2_points (s2_sets o1 v3.2.2) (q2_points r1)) v3.2.1) ((jshl 1 v3.1) ||| (jshl 1 x6)) r7 hr8) 0 rfl (ci := 2) rfl rfl myX2_add 69 mw_2_106 rfl [0, 1] [] [0, 1] (wr := []) rfl rfl (by decide) (by decide) (by decide) [(a1, .inr (2, [.ref a1_sets, .int (q2_points r1), .int (q2_facets r7)])), (a1_sets, .inl (zI Z, 10, .inl (q2_sets r7)))] rfl (by decide) (Nat.le_of_ble_eq_true rfl) (by rw [hR]; exact Nat.le_of_ble_eq_true rfl) (by rw [hR]; exact Nat.le_of_ble_eq_true rfl) ⟨by rw [hR]; exact Nat.le_of_ble_eq_true rfl, by rw [hR]; exact Nat.le_of_ble_eq_true rfl⟩ rfl dX5_layCycle_35 ?_
      refine g_iinc C (v3.1 + 1) dX5_layCycle_38 3 rfl rfl (by decide) [(2, .int (v3.1 + 1)), (3, .int x6), (0, .int p0), (1, .ref a1)] rfl ?_
      refine g_goto C 7 dX5_layCycle_41 (by decide) ?_
      refine g_lv [2, 3, 0] [(0, .int p0), (1, .ref a1), (2, .int (v3.1 + 1))] rfl ?_
      exact hk1 ((v3.1 + 1), (q2_facets r7), (q2_sets r7)) (Option.some.inj h).symm
    refine g_icmp_ge C 25 dX5_layCycle_16 (by decide) (fun c9 => ?_) (fun c9 => ?_)
    · replace h := it_t c9 h
      refine g_iconst C 0 dX5_layCycle_25 (by decide) ?_
      exact hj26 0 h
    · replace h := it_f c9 h
      refine g_iload_n C dX5_layCycle_19 rfl 2 rfl ?_
      refine g_iconst C 1 dX5_layCycle_20 (by decide) ?_
      refine g_iadd C dX5_layCycle_21 ?_
      refine g_goto C 26 dX5_layCycle_22 (by decide) ?_
      exact hj26 (v3.1 + 1) h
def fX5_layCube_L19 (o1 : OX2) (r1 : OX2) (v3 : Int32 × Int32 × (Nat → Int32)) (v6 : Int32 × Int32) : Option ((Int32 × Int32) ⊕ ((Int32 × Int32 × (Nat → Int32)) ⊕ (OX2))) :=
  if (q2_points r1) ≤ v6.2 then (ex ((fX2_allPoints (s2_facets (s2_points (s2_sets o1 v3.2.2) (q2_points r1)) v3.2.1)).bind fun r9 =>
  ((fX2_add (s2_facets (s2_points (s2_sets o1 v3.2.2) (q2_points r1)) v3.2.1) (r9 &&& (v6.1 ^^^ (-1)))).bind fun r11 =>
  ((fX2_add (s2_facets (s2_points (s2_sets o1 (q2_sets r11)) (q2_points r1)) (q2_facets r11)) v6.1).bind fun r13 =>
  (some (.inl ((v3.1 + 1), (q2_facets r13), (q2_sets r13))))))))
  else (some (.inl ((v6.1 ||| (jshl ((jshr v6.2 v3.1) &&& 1) v6.2)), (v6.2 + 1))))
def fX5_layCube_L9 (p0 : Int32) (o1 : OX2) (r1 : OX2) (v3 : Int32 × Int32 × (Nat → Int32)) : Option ((Int32 × Int32 × (Nat → Int32)) ⊕ (OX2)) :=
  if p0 ≤ v3.1 then (ex (some (s2_facets (s2_points (s2_sets o1 v3.2.2) (q2_points r1)) v3.2.1)))
  else (lp (fX5_layCube_L19 o1 r1 v3) lpN (0, 0))
def fX5_layCube (p0 : Int32) (o1 : OX2) : Option (OX2) :=
  (fX2_clear o1 (jshl 1 p0)).bind fun r1 =>
  (lp (fX5_layCube_L9 p0 o1 r1) lpN (0, (q2_facets r1), (q2_sets o1)))
theorem myX5_layCube : MYs yX5_layCube cX5_layCube 5 none 2 := ⟨mw_2_114, mw_2_115, mw_1_2, ⟨by decide +kernel, by decide +kernel⟩, by decide +kernel⟩
set_option maxRecDepth 100000 in
set_option maxHeartbeats 4000000 in
theorem kX5_layCube (l : Launch) (Z : GZ) (a1 a1_sets : Nat) (p0 : Int32) (o1 : OX2) (res : OX2) (h : fX5_layCube p0 o1 = some res) : MV l Z yX5_layCube cX5_layCube 5 1 21 [.int p0, .ref a1] [(a1, .inr (2, [.ref a1_sets, .int (q2_points o1), .int (q2_facets o1)])), (a1_sets, .inl (zI Z, 10, .inl (q2_sets o1)))] [(a1, .inr (2, [.ref a1_sets, .int (q2_points res), .int (q2_facets res)])), (a1_sets, .inl (zI Z, 10, .inl (q2_sets res)))] := by
  refine MV_of (by decide +kernel) (Nat.le_of_ble_eq_true rfl) (fun {p e s m args below meth c} A R hR Q hQ C hr hlk => ?_)
  unfold fX5_layCube at h
  refine g_lv [0, 1] [(0, .int p0), (1, .ref a1)] rfl ?_
  refine g_aload_n C dX5_layCube_0 rfl 1 rfl ?_
  refine g_iconst C 1 dX5_layCube_1 (by decide) ?_
  refine g_iload_n C dX5_layCube_2 rfl 0 rfl ?_
  refine g_ishl C dX5_layCube_3 ?_
  obtain ⟨r1, hr2, h⟩ := bd_of h
  refine g_callVv C (kX2_clear l Z a1 a1_sets o1 (jshl 1 p0) r1 hr2) 0 rfl (ci := 2) rfl rfl myX2_clear 107 mw_2_101 rfl [0] [1] [1, 0] (wr := [(a1_sets, .inl (zI Z, 10, .inl (q2_sets o1)))]) rfl rfl (by decide) (by decide) (by decide) [(a1, .inr (2, [.ref a1_sets, .int (q2_points r1), .int (q2_facets r1)])), (a1_sets, .inl (zI Z, 10, .inl (q2_sets o1)))] rfl (by decide) (Nat.le_of_ble_eq_true rfl) (by rw [hR]; exact Nat.le_of_ble_eq_true rfl) (by rw [hR]; exact Nat.le_of_ble_eq_true rfl) ⟨by rw [hR]; exact Nat.le_of_ble_eq_true rfl, by rw [hR]; exact Nat.le_of_ble_eq_true rfl⟩ rfl dX5_layCube_4 ?_
  refine g_iconst C 0 dX5_layCube_7 (by decide) ?_
  refine g_istore_n C dX5_layCube_8 rfl (by decide) [(2, .int 0), (0, .int p0), (1, .ref a1)] rfl ?_
  refine g_lv [1, 2, 0] [(0, .int p0), (1, .ref a1), (2, .int 0)] rfl ?_
  refine g_loop (lvf := fun v3 => [(0, .int p0), (1, .ref a1), (2, .int v3.1)]) (wsf := fun v3 => [(a1, .inr (2, [.ref a1_sets, .int (q2_points r1), .int v3.2.1])), (a1_sets, .inl (zI Z, 10, .inl v3.2.2))]) h (fun v3 y1 h hk1 hx1 => ?_)
  refine g_eq (lv1 := [(0, .int p0), (1, .ref a1), (2, .int v3.1)]) (st1 := []) (ws1 := [(a1, .inr (2, [.ref a1_sets, .int (q2_points r1), .int v3.2.1])), (a1_sets, .inl (zI Z, 10, .inl v3.2.2))]) rfl rfl rfl rfl ?_
  unfold fX5_layCube_L9 at h
  refine g_iload_n C dX5_layCube_9 rfl 2 rfl ?_
  refine g_iload_n C dX5_layCube_10 rfl 0 rfl ?_
  refine g_icmp_ge C 69 dX5_layCube_11 (by decide) (fun c4 => ?_) (fun c4 => ?_)
  · replace h := it_t c4 h
    obtain ⟨r5, h, hy⟩ := ex_of h
    rw [hx1 r5 hy] at h
    obtain rfl := Option.some.inj h
    subst hQ
    exact g_vret C hr hlk dX5_layCube_69 [0, 1] rfl (by decide)
  · replace h := it_f c4 h
    refine g_iconst C 0 dX5_layCube_14 (by decide) ?_
    refine g_istore_n C dX5_layCube_15 rfl (by decide) [(3, .int 0), (0, .int p0), (1, .ref a1), (2, .int v3.1)] rfl ?_
    refine g_iconst C 0 dX5_layCube_16 (by decide) ?_
    refine g_istore C dX5_layCube_17 (by decide) [(4, .int 0), (3, .int 0), (0, .int p0), (1, .ref a1), (2, .int v3.1)] rfl ?_
    refine g_lv [2, 3, 4, 1, 0] [(0, .int p0), (1, .ref a1), (2, .int v3.1), (3, .int 0), (4, .int 0)] rfl ?_
    refine g_loop (lvf := fun v6 => [(0, .int p0), (1, .ref a1), (2, .int v3.1), (3, .int v6.1), (4, .int v6.2)]) (wsf := fun v6 => [(a1, .inr (2, [.ref a1_sets, .int (q2_points r1), .int v3.2.1])), (a1_sets, .inl (zI Z, 10, .inl v3.2.2))]) h (fun v6 y2 h hk2 hx2 => ?_)
    refine g_eq (lv1 := [(0, .int p0), (1, .ref a1), (2, .int v3.1), (3, .int v6.1), (4, .int v6.2)]) (st1 := []) (ws1 := [(a1, .inr (2, [.ref a1_sets, .int (q2_points r1), .int v3.2.1])), (a1_sets, .inl (zI Z, 10, .inl v3.2.2))]) rfl rfl rfl rfl ?_
    unfold fX5_layCube_L19 at h
    refine g_iload C dX5_layCube_19 4 rfl ?_
    refine g_aload_n C dX5_layCube_21 rfl 1 rfl ?_
    refine g_get C 2 66 gin2 0 rfl rfl 1 (by decide) mw_1_77 rfl rfl dX5_layCube_22 ?_
    refine g_icmp_ge C 46 dX5_layCube_25 (by decide) (fun c7 => ?_) (fun c7 => ?_)
    · replace h := it_t c7 h
      obtain ⟨r8, h, hy⟩ := ex_of h
      rw [hx2 r8 hy] at h
      refine g_aload_n C dX5_layCube_46 rfl 1 rfl ?_
      refine g_aload_n C dX5_layCube_47 rfl 1 rfl ?_
      obtain ⟨r9, hr10, h⟩ := bd_of h
      refine g_callVi C (kX2_allPoints l Z a1 a1_sets (s2_facets (s2_points (s2_sets o1 v3.2.2) (q2_points r1)) v3.2.1) r9 hr10) 0 rfl (ci := 2) rfl rfl myX2_allPoints 110 mw_2_105 rfl [0] [1] [1, 0] (wr := [(a1_sets, .inl (zI Z, 10, .inl v3.2.2))]) rfl rfl (by decide) (by decide) (by decide) [(a1, .inr (2, [.ref a1_sets, .int (q2_points r1), .int v3.2.1])), (a1_sets, .inl (zI Z, 10, .inl v3.2.2))] rfl (by decide) (Nat.le_of_ble_eq_true rfl) (by rw [hR]; exact Nat.le_of_ble_eq_true rfl) (by rw [hR]; exact Nat.le_of_ble_eq_true rfl) ⟨by rw [hR]; exact Nat.le_of_ble_eq_true rfl, by rw [hR]; exact Nat.le_of_ble_eq_true rfl⟩ rfl dX5_layCube_48 ?_
      refine g_iload_n C dX5_layCube_51 rfl 3 rfl ?_
      refine g_iconst C (-1) dX5_layCube_52 (by decide) ?_
      refine g_ixor C dX5_layCube_53 ?_
      refine g_iand C dX5_layCube_54 ?_
      obtain ⟨r11, hr12, h⟩ := bd_of h
      refine g_callVv C (kX2_add l Z a1 a1_sets (s2_facets (s2_points (s2_sets o1 v3.2.2) (q2_points r1)) v3.2.1) (r9 &&& (v6.1 ^^^ (-1))) r11 hr12) 0 rfl (ci := 2) rfl rfl myX2_add 69 mw_2_106 rfl [0, 1] [] [0, 1] (wr := []) rfl rfl (by decide) (by decide) (by decide) [(a1, .inr (2, [.ref a1_sets, .int (q2_points r1), .int (q2_facets r11)])), (a1_sets, .inl (zI Z, 10, .inl (q2_sets r11)))] rfl (by decide) (Nat.le_of_ble_eq_true rfl) (by rw [hR]; exact Nat.le_of_ble_eq_true rfl) (by rw [hR]; exact Nat.le_of_ble_eq_true rfl) ⟨by rw [hR]; exact Nat.le_of_ble_eq_true rfl, by rw [hR]; exact Nat.le_of_ble_eq_true rfl⟩ rfl dX5_layCube_55 ?_
      refine g_aload_n C dX5_layCube_58 rfl 1 rfl ?_
      refine g_iload_n C dX5_layCube_59 rfl 3 rfl ?_
      obtain ⟨r13, hr14, h⟩ := bd_of h
      refine g_callVv C (kX2_add l Z a1 a1_sets (s2_facets (s2_points (s2_sets o1 (q2_sets r11)) (q2_points r1)) (q2_facets r11)) v6.1 r13 hr14) 0 rfl (ci := 2) rfl rfl myX2_add 69 mw_2_106 rfl [0, 1] [] [0, 1] (wr := []) rfl rfl (by decide) (by decide) (by decide) [(a1, .inr (2, [.ref a1_sets, .int (q2_points r1), .int (q2_facets r13)])), (a1_sets, .inl (zI Z, 10, .inl (q2_sets r13)))] rfl (by decide) (Nat.le_of_ble_eq_true rfl) (by rw [hR]; exact Nat.le_of_ble_eq_true rfl) (by rw [hR]; exact Nat.le_of_ble_eq_true rfl) ⟨by rw [hR]; exact Nat.le_of_ble_eq_true rfl, by rw [hR]; exact Nat.le_of_ble_eq_true rfl⟩ rfl dX5_layCube_60 ?_
      refine g_iinc C (v3.1 + 1) dX5_layCube_63 2 rfl rfl (by decide) [(2, .int (v3.1 + 1)), (0, .int p0), (1, .ref a1), (3, .int v6.1), (4, .int v6.2)] rfl ?_
      refine g_goto C 9 dX5_layCube_66 (by decide) ?_
      refine g_lv [1, 2, 0] [(0, .int p0), (1, .ref a1), (2, .int (v3.1 + 1))] rfl ?_
      exact hk1 ((v3.1 + 1), (q2_facets r13), (q2_sets r13)) (Option.some.inj h).symm
    · replace h := it_f c7 h
      refine g_iload_n C dX5_layCube_28 rfl 3 rfl ?_
      refine g_iload C dX5_layCube_29 4 rfl ?_
      refine g_iload_n C dX5_layCube_31 rfl 2 rfl ?_
      refine g_ishr C dX5_layCube_32 ?_
      refine g_iconst C 1 dX5_layCube_33 (by decide) ?_
      refine g_iand C dX5_layCube_34 ?_
      refine g_iload C dX5_layCube_35 4 rfl ?_
      refine g_ishl C dX5_layCube_37 ?_
      refine g_ior C dX5_layCube_38 ?_
      refine g_istore_n C dX5_layCube_39 rfl (by decide) [(3, .int (v6.1 ||| (jshl ((jshr v6.2 v3.1) &&& 1) v6.2))), (0, .int p0), (1, .ref a1), (2, .int v3.1), (4, .int v6.2)] rfl ?_
      refine g_iinc C (v6.2 + 1) dX5_layCube_40 4 rfl rfl (by decide) [(4, .int (v6.2 + 1)), (3, .int (v6.1 ||| (jshl ((jshr v6.2 v3.1) &&& 1) v6.2))), (0, .int p0), (1, .ref a1), (2, .int v3.1)] rfl ?_
      refine g_goto C 19 dX5_layCube_43 (by decide) ?_
      refine g_lv [2, 3, 4, 1, 0] [(0, .int p0), (1, .ref a1), (2, .int v3.1), (3, .int (v6.1 ||| (jshl ((jshr v6.2 v3.1) &&& 1) v6.2))), (4, .int (v6.2 + 1))] rfl ?_
      exact hk2 ((v6.1 ||| (jshl ((jshr v6.2 v3.1) &&& 1) v6.2)), (v6.2 + 1)) (Option.some.inj h).symm
def fX5_layCross_L21 (p0 : Int32) (o1 : OX2) (r1 : OX2) (v3 : Int32 × Int32 × (Nat → Int32)) (v6 : Int32 × Int32) : Option ((Int32 × Int32) ⊕ ((Int32 × Int32 × (Nat → Int32)) ⊕ (OX2))) :=
  if p0 ≤ v6.2 then (ex ((fX2_add (s2_facets (s2_points (s2_sets o1 v3.2.2) (q2_points r1)) v3.2.1) v6.1).bind fun r9 =>
  (some (.inl ((v3.1 + 1), (q2_facets r9), (q2_sets r9))))))
  else (some (.inl ((v6.1 ||| (jshl 1 ((2 * v6.2) + ((jshr v3.1 v6.2) &&& 1)))), (v6.2 + 1))))
def fX5_layCross_L9 (p0 : Int32) (o1 : OX2) (r1 : OX2) (v3 : Int32 × Int32 × (Nat → Int32)) : Option ((Int32 × Int32 × (Nat → Int32)) ⊕ (OX2)) :=
  if (jshl 1 p0) ≤ v3.1 then (ex (some (s2_facets (s2_points (s2_sets o1 v3.2.2) (q2_points r1)) v3.2.1)))
  else (lp (fX5_layCross_L21 p0 o1 r1 v3) lpN (0, 0))
def fX5_layCross (p0 : Int32) (o1 : OX2) : Option (OX2) :=
  (fX2_clear o1 (2 * p0)).bind fun r1 =>
  (lp (fX5_layCross_L9 p0 o1 r1) lpN (0, (q2_facets r1), (q2_sets o1)))
theorem myX5_layCross : MYs yX5_layCross cX5_layCross 5 none 2 := ⟨mw_2_117, mw_2_118, mw_1_2, ⟨by decide +kernel, by decide +kernel⟩, by decide +kernel⟩
set_option maxRecDepth 100000 in
set_option maxHeartbeats 4000000 in
theorem kX5_layCross (l : Launch) (Z : GZ) (a1 a1_sets : Nat) (p0 : Int32) (o1 : OX2) (res : OX2) (h : fX5_layCross p0 o1 = some res) : MV l Z yX5_layCross cX5_layCross 5 1 21 [.int p0, .ref a1] [(a1, .inr (2, [.ref a1_sets, .int (q2_points o1), .int (q2_facets o1)])), (a1_sets, .inl (zI Z, 10, .inl (q2_sets o1)))] [(a1, .inr (2, [.ref a1_sets, .int (q2_points res), .int (q2_facets res)])), (a1_sets, .inl (zI Z, 10, .inl (q2_sets res)))] := by
  refine MV_of (by decide +kernel) (Nat.le_of_ble_eq_true rfl) (fun {p e s m args below meth c} A R hR Q hQ C hr hlk => ?_)
  unfold fX5_layCross at h
  refine g_lv [0, 1] [(0, .int p0), (1, .ref a1)] rfl ?_
  refine g_aload_n C dX5_layCross_0 rfl 1 rfl ?_
  refine g_iconst C 2 dX5_layCross_1 (by decide) ?_
  refine g_iload_n C dX5_layCross_2 rfl 0 rfl ?_
  refine g_imul C dX5_layCross_3 ?_
  obtain ⟨r1, hr2, h⟩ := bd_of h
  refine g_callVv C (kX2_clear l Z a1 a1_sets o1 (2 * p0) r1 hr2) 0 rfl (ci := 2) rfl rfl myX2_clear 107 mw_2_101 rfl [0] [1] [1, 0] (wr := [(a1_sets, .inl (zI Z, 10, .inl (q2_sets o1)))]) rfl rfl (by decide) (by decide) (by decide) [(a1, .inr (2, [.ref a1_sets, .int (q2_points r1), .int (q2_facets r1)])), (a1_sets, .inl (zI Z, 10, .inl (q2_sets o1)))] rfl (by decide) (Nat.le_of_ble_eq_true rfl) (by rw [hR]; exact Nat.le_of_ble_eq_true rfl) (by rw [hR]; exact Nat.le_of_ble_eq_true rfl) ⟨by rw [hR]; exact Nat.le_of_ble_eq_true rfl, by rw [hR]; exact Nat.le_of_ble_eq_true rfl⟩ rfl dX5_layCross_4 ?_
  refine g_iconst C 0 dX5_layCross_7 (by decide) ?_
  refine g_istore_n C dX5_layCross_8 rfl (by decide) [(2, .int 0), (0, .int p0), (1, .ref a1)] rfl ?_
  refine g_lv [1, 2, 0] [(0, .int p0), (1, .ref a1), (2, .int 0)] rfl ?_
  refine g_loop (lvf := fun v3 => [(0, .int p0), (1, .ref a1), (2, .int v3.1)]) (wsf := fun v3 => [(a1, .inr (2, [.ref a1_sets, .int (q2_points r1), .int v3.2.1])), (a1_sets, .inl (zI Z, 10, .inl v3.2.2))]) h (fun v3 y1 h hk1 hx1 => ?_)
  refine g_eq (lv1 := [(0, .int p0), (1, .ref a1), (2, .int v3.1)]) (st1 := []) (ws1 := [(a1, .inr (2, [.ref a1_sets, .int (q2_points r1), .int v3.2.1])), (a1_sets, .inl (zI Z, 10, .inl v3.2.2))]) rfl rfl rfl rfl ?_
  unfold fX5_layCross_L9 at h
  refine g_iload_n C dX5_layCross_9 rfl 2 rfl ?_
  refine g_iconst C 1 dX5_layCross_10 (by decide) ?_
  refine g_iload_n C dX5_layCross_11 rfl 0 rfl ?_
  refine g_ishl C dX5_layCross_12 ?_
  refine g_icmp_ge C 60 dX5_layCross_13 (by decide) (fun c4 => ?_) (fun c4 => ?_)
  · replace h := it_t c4 h
    obtain ⟨r5, h, hy⟩ := ex_of h
    rw [hx1 r5 hy] at h
    obtain rfl := Option.some.inj h
    subst hQ
    exact g_vret C hr hlk dX5_layCross_60 [0, 1] rfl (by decide)
  · replace h := it_f c4 h
    refine g_iconst C 0 dX5_layCross_16 (by decide) ?_
    refine g_istore_n C dX5_layCross_17 rfl (by decide) [(3, .int 0), (0, .int p0), (1, .ref a1), (2, .int v3.1)] rfl ?_
    refine g_iconst C 0 dX5_layCross_18 (by decide) ?_
    refine g_istore C dX5_layCross_19 (by decide) [(4, .int 0), (3, .int 0), (0, .int p0), (1, .ref a1), (2, .int v3.1)] rfl ?_
    refine g_lv [2, 3, 4, 1, 0] [(0, .int p0), (1, .ref a1), (2, .int v3.1), (3, .int 0), (4, .int 0)] rfl ?_
    refine g_loop (lvf := fun v6 => [(0, .int p0), (1, .ref a1), (2, .int v3.1), (3, .int v6.1), (4, .int v6.2)]) (wsf := fun v6 => [(a1, .inr (2, [.ref a1_sets, .int (q2_points r1), .int v3.2.1])), (a1_sets, .inl (zI Z, 10, .inl v3.2.2))]) h (fun v6 y2 h hk2 hx2 => ?_)
    refine g_eq (lv1 := [(0, .int p0), (1, .ref a1), (2, .int v3.1), (3, .int v6.1), (4, .int v6.2)]) (st1 := []) (ws1 := [(a1, .inr (2, [.ref a1_sets, .int (q2_points r1), .int v3.2.1])), (a1_sets, .inl (zI Z, 10, .inl v3.2.2))]) rfl rfl rfl rfl ?_
    unfold fX5_layCross_L21 at h
    refine g_iload C dX5_layCross_21 4 rfl ?_
    refine g_iload_n C dX5_layCross_23 rfl 0 rfl ?_
    refine g_icmp_ge C 49 dX5_layCross_24 (by decide) (fun c7 => ?_) (fun c7 => ?_)
    · replace h := it_t c7 h
      obtain ⟨r8, h, hy⟩ := ex_of h
      rw [hx2 r8 hy] at h
      refine g_aload_n C dX5_layCross_49 rfl 1 rfl ?_
      refine g_iload_n C dX5_layCross_50 rfl 3 rfl ?_
      obtain ⟨r9, hr10, h⟩ := bd_of h
      refine g_callVv C (kX2_add l Z a1 a1_sets (s2_facets (s2_points (s2_sets o1 v3.2.2) (q2_points r1)) v3.2.1) v6.1 r9 hr10) 0 rfl (ci := 2) rfl rfl myX2_add 69 mw_2_106 rfl [0, 1] [] [0, 1] (wr := []) rfl rfl (by decide) (by decide) (by decide) [(a1, .inr (2, [.ref a1_sets, .int (q2_points r1), .int (q2_facets r9)])), (a1_sets, .inl (zI Z, 10, .inl (q2_sets r9)))] rfl (by decide) (Nat.le_of_ble_eq_true rfl) (by rw [hR]; exact Nat.le_of_ble_eq_true rfl) (by rw [hR]; exact Nat.le_of_ble_eq_true rfl) ⟨by rw [hR]; exact Nat.le_of_ble_eq_true rfl, by rw [hR]; exact Nat.le_of_ble_eq_true rfl⟩ rfl dX5_layCross_51 ?_
      refine g_iinc C (v3.1 + 1) dX5_layCross_54 2 rfl rfl (by decide) [(2, .int (v3.1 + 1)), (0, .int p0), (1, .ref a1), (3, .int v6.1), (4, .int v6.2)] rfl ?_
      refine g_goto C 9 dX5_layCross_57 (by decide) ?_
      refine g_lv [1, 2, 0] [(0, .int p0), (1, .ref a1), (2, .int (v3.1 + 1))] rfl ?_
      exact hk1 ((v3.1 + 1), (q2_facets r9), (q2_sets r9)) (Option.some.inj h).symm
    · replace h := it_f c7 h
      refine g_iload_n C dX5_layCross_27 rfl 3 rfl ?_
      refine g_iconst C 1 dX5_layCross_28 (by decide) ?_
      refine g_iconst C 2 dX5_layCross_29 (by decide) ?_
      refine g_iload C dX5_layCross_30 4 rfl ?_
      refine g_imul C dX5_layCross_32 ?_
      refine g_iload_n C dX5_layCross_33 rfl 2 rfl ?_
      refine g_iload C dX5_layCross_34 4 rfl ?_
      refine g_ishr C dX5_layCross_36 ?_
      refine g_iconst C 1 dX5_layCross_37 (by decide) ?_
      refine g_iand C dX5_layCross_38 ?_
      refine g_iadd C dX5_layCross_39 ?_
      refine g_ishl C dX5_layCross_40 ?_
      refine g_ior C dX5_layCross_41 ?_
      refine g_istore_n C dX5_layCross_42 rfl (by decide) [(3, .int (v6.1 ||| (jshl 1 ((2 * v6.2) + ((jshr v3.1 v6.2) &&& 1))))), (0, .int p0), (1, .ref a1), (2, .int v3.1), (4, .int v6.2)] rfl ?_
      refine g_iinc C (v6.2 + 1) dX5_layCross_43 4 rfl rfl (by decide) [(4, .int (v6.2 + 1)), (3, .int (v6.1 ||| (jshl 1 ((2 * v6.2) + ((jshr v3.1 v6.2) &&& 1))))), (0, .int p0), (1, .ref a1), (2, .int v3.1)] rfl ?_
      refine g_goto C 21 dX5_layCross_46 (by decide) ?_
      refine g_lv [2, 3, 4, 1, 0] [(0, .int p0), (1, .ref a1), (2, .int v3.1), (3, .int (v6.1 ||| (jshl 1 ((2 * v6.2) + ((jshr v3.1 v6.2) &&& 1))))), (4, .int (v6.2 + 1))] rfl ?_
      exact hk2 ((v6.1 ||| (jshl 1 ((2 * v6.2) + ((jshr v3.1 v6.2) &&& 1)))), (v6.2 + 1)) (Option.some.inj h).symm
def fX5_lay (p0 : Int32) (p1 : Int32) (o2 : OX2) : Option (OX2) :=
  if p0 = 1 then ((fX5_laySimplex p1 o2).bind fun r2 =>
  (some r2))
  else (if p0 = 2 then ((fX5_layCycle p1 o2).bind fun r5 =>
  (some r5))
  else (if p0 = 3 then ((fX5_layCube p1 o2).bind fun r8 =>
  (some r8))
  else (if p0 = 4 then ((fX5_layCross p1 o2).bind fun r11 =>
  (some r11))
  else ((fX2_clear o2 p1).bind fun r13 =>
  (some (s2_facets (s2_points o2 (q2_points r13)) (q2_facets r13)))))))
theorem myX5_lay : MYs yX5_lay cX5_lay 3 none 3 := ⟨mw_2_96, mw_2_97, mw_1_2, ⟨by decide +kernel, by decide +kernel⟩, by decide +kernel⟩
set_option maxRecDepth 100000 in
set_option maxHeartbeats 4000000 in
theorem kX5_lay (l : Launch) (Z : GZ) (a2 a2_sets : Nat) (p0 : Int32) (p1 : Int32) (o2 : OX2) (res : OX2) (h : fX5_lay p0 p1 o2 = some res) : MV l Z yX5_lay cX5_lay 3 2 45 [.int p0, .int p1, .ref a2] [(a2, .inr (2, [.ref a2_sets, .int (q2_points o2), .int (q2_facets o2)])), (a2_sets, .inl (zI Z, 10, .inl (q2_sets o2)))] [(a2, .inr (2, [.ref a2_sets, .int (q2_points res), .int (q2_facets res)])), (a2_sets, .inl (zI Z, 10, .inl (q2_sets res)))] := by
  refine MV_of (by decide +kernel) (Nat.le_of_ble_eq_true rfl) (fun {p e s m args below meth c} A R hR Q hQ C hr hlk => ?_)
  unfold fX5_lay at h
  refine g_lv [0, 1, 2] [(0, .int p0), (1, .int p1), (2, .ref a2)] rfl ?_
  refine g_iload_n C dX5_lay_0 rfl 0 rfl ?_
  by_cases c1 : p0 = 1
  · replace h := it_t c1 h
    refine g_tableIn C 32 dX5_lay_1 1 c1 (by decide) (by decide) rfl (by decide) ?_
    refine g_iload_n C dX5_lay_32 rfl 1 rfl ?_
    refine g_aload_n C dX5_lay_33 rfl 2 rfl ?_
    obtain ⟨r2, hr3, h⟩ := bd_of h
    refine g_callSv C (kX5_laySimplex l Z a2 a2_sets p1 o2 r2 hr3) myX5_laySimplex 94 mw_2_98 rfl [0, 1] [] [0, 1] (wr := []) rfl rfl (by decide) (by decide) (by decide) [(a2, .inr (2, [.ref a2_sets, .int (q2_points r2), .int (q2_facets r2)])), (a2_sets, .inl (zI Z, 10, .inl (q2_sets r2)))] rfl (by decide) (Nat.le_of_ble_eq_true rfl) (by rw [hR]; exact Nat.le_of_ble_eq_true rfl) (by rw [hR]; exact Nat.le_of_ble_eq_true rfl) ⟨by rw [hR]; exact Nat.le_of_ble_eq_true rfl, by rw [hR]; exact Nat.le_of_ble_eq_true rfl⟩ rfl dX5_lay_34 ?_
    refine g_goto C 69 dX5_lay_37 (by decide) ?_
    obtain rfl := Option.some.inj h
    subst hQ
    exact g_vret C hr hlk dX5_lay_69 [0, 1] rfl (by decide)
  · replace h := it_f c1 h
    by_cases c4 : p0 = 2
    · replace h := it_t c4 h
      refine g_tableIn C 40 dX5_lay_1 2 c4 (by decide) (by decide) rfl (by decide) ?_
      refine g_iload_n C dX5_lay_40 rfl 1 rfl ?_
      refine g_aload_n C dX5_lay_41 rfl 2 rfl ?_
      obtain ⟨r5, hr6, h⟩ := bd_of h
      refine g_callSv C (kX5_layCycle l Z a2 a2_sets p1 o2 r5 hr6) myX5_layCycle 98 mw_2_110 rfl [0, 1] [] [0, 1] (wr := []) rfl rfl (by decide) (by decide) (by decide) [(a2, .inr (2, [.ref a2_sets, .int (q2_points r5), .int (q2_facets r5)])), (a2_sets, .inl (zI Z, 10, .inl (q2_sets r5)))] rfl (by decide) (Nat.le_of_ble_eq_true rfl) (by rw [hR]; exact Nat.le_of_ble_eq_true rfl) (by rw [hR]; exact Nat.le_of_ble_eq_true rfl) ⟨by rw [hR]; exact Nat.le_of_ble_eq_true rfl, by rw [hR]; exact Nat.le_of_ble_eq_true rfl⟩ rfl dX5_lay_42 ?_
      refine g_goto C 69 dX5_lay_45 (by decide) ?_
      obtain rfl := Option.some.inj h
      subst hQ
      exact g_vret C hr hlk dX5_lay_69 [0, 1] rfl (by decide)
    · replace h := it_f c4 h
      by_cases c7 : p0 = 3
      · replace h := it_t c7 h
        refine g_tableIn C 48 dX5_lay_1 3 c7 (by decide) (by decide) rfl (by decide) ?_
        refine g_iload_n C dX5_lay_48 rfl 1 rfl ?_
        refine g_aload_n C dX5_lay_49 rfl 2 rfl ?_
        obtain ⟨r8, hr9, h⟩ := bd_of h
        refine g_callSv C (kX5_layCube l Z a2 a2_sets p1 o2 r8 hr9) myX5_layCube 101 mw_2_113 rfl [0, 1] [] [0, 1] (wr := []) rfl rfl (by decide) (by decide) (by decide) [(a2, .inr (2, [.ref a2_sets, .int (q2_points r8), .int (q2_facets r8)])), (a2_sets, .inl (zI Z, 10, .inl (q2_sets r8)))] rfl (by decide) (Nat.le_of_ble_eq_true rfl) (by rw [hR]; exact Nat.le_of_ble_eq_true rfl) (by rw [hR]; exact Nat.le_of_ble_eq_true rfl) ⟨by rw [hR]; exact Nat.le_of_ble_eq_true rfl, by rw [hR]; exact Nat.le_of_ble_eq_true rfl⟩ rfl dX5_lay_50 ?_
        refine g_goto C 69 dX5_lay_53 (by decide) ?_
        obtain rfl := Option.some.inj h
        subst hQ
        exact g_vret C hr hlk dX5_lay_69 [0, 1] rfl (by decide)
      · replace h := it_f c7 h
        by_cases c10 : p0 = 4
        · replace h := it_t c10 h
          refine g_tableIn C 56 dX5_lay_1 4 c10 (by decide) (by decide) rfl (by decide) ?_
          refine g_iload_n C dX5_lay_56 rfl 1 rfl ?_
          refine g_aload_n C dX5_lay_57 rfl 2 rfl ?_
          obtain ⟨r11, hr12, h⟩ := bd_of h
          refine g_callSv C (kX5_layCross l Z a2 a2_sets p1 o2 r11 hr12) myX5_layCross 104 mw_2_116 rfl [0, 1] [] [0, 1] (wr := []) rfl rfl (by decide) (by decide) (by decide) [(a2, .inr (2, [.ref a2_sets, .int (q2_points r11), .int (q2_facets r11)])), (a2_sets, .inl (zI Z, 10, .inl (q2_sets r11)))] rfl (by decide) (Nat.le_of_ble_eq_true rfl) (by rw [hR]; exact Nat.le_of_ble_eq_true rfl) (by rw [hR]; exact Nat.le_of_ble_eq_true rfl) ⟨by rw [hR]; exact Nat.le_of_ble_eq_true rfl, by rw [hR]; exact Nat.le_of_ble_eq_true rfl⟩ rfl dX5_lay_58 ?_
          refine g_goto C 69 dX5_lay_61 (by decide) ?_
          obtain rfl := Option.some.inj h
          subst hQ
          exact g_vret C hr hlk dX5_lay_69 [0, 1] rfl (by decide)
        · replace h := it_f c10 h
          refine g_tableOut C 64 dX5_lay_1 (tsw14 c1 c4 c7 c10) (by decide) ?_
          refine g_aload_n C dX5_lay_64 rfl 2 rfl ?_
          refine g_iload_n C dX5_lay_65 rfl 1 rfl ?_
          obtain ⟨r13, hr14, h⟩ := bd_of h
          refine g_callVv C (kX2_clear l Z a2 a2_sets o2 p1 r13 hr14) 0 rfl (ci := 2) rfl rfl myX2_clear 107 mw_2_101 rfl [0] [1] [1, 0] (wr := [(a2_sets, .inl (zI Z, 10, .inl (q2_sets o2)))]) rfl rfl (by decide) (by decide) (by decide) [(a2, .inr (2, [.ref a2_sets, .int (q2_points r13), .int (q2_facets r13)])), (a2_sets, .inl (zI Z, 10, .inl (q2_sets o2)))] rfl (by decide) (Nat.le_of_ble_eq_true rfl) (by rw [hR]; exact Nat.le_of_ble_eq_true rfl) (by rw [hR]; exact Nat.le_of_ble_eq_true rfl) ⟨by rw [hR]; exact Nat.le_of_ble_eq_true rfl, by rw [hR]; exact Nat.le_of_ble_eq_true rfl⟩ rfl dX5_lay_66 ?_
          obtain rfl := Option.some.inj h
          subst hQ
          exact g_vret C hr hlk dX5_lay_69 [0, 1] rfl (by decide)
def fX5_readShape (o0 : OX5) (o1 : OX2) : Option (Int32 × OX5 × OX2) :=
  (fX5_shapeHere o0).bind fun r1 =>
  (if r1 = (-1) then (some (0, o0, o1))
  else ((fX5_advance o0).bind fun r4 =>
  ((fX5_numberHere (s5_end (s5_start (s5_kind o0 (q5_kind r4)) (q5_start r4)) (q5_end r4))).bind fun r6 =>
  (ck (okI r1 5) (if r6 < (tLeast (ix r1)) then (some (0, (s5_end (s5_start (s5_kind o0 (q5_kind r4)) (q5_start r4)) (q5_end r4)), o1))
  else (ck (okI r1 5) (if r6 ≤ (tMost (ix r1)) then ((fX5_lay r1 r6 o1).bind fun r12 =>
  ((fX5_advance (s5_end (s5_start (s5_kind o0 (q5_kind r4)) (q5_start r4)) (q5_end r4))).bind fun r14 =>
  (some (1, (s5_end (s5_start (s5_kind o0 (q5_kind r14)) (q5_start r14)) (q5_end r14)), r12))))
  else (some (0, (s5_end (s5_start (s5_kind o0 (q5_kind r4)) (q5_start r4)) (q5_end r4)), o1)))))))))
theorem myX5_readShape : MYv yX5_readShape cX5_readShape 4 (some .boolean) 1 := ⟨mw_2_24, ms_3, mw_2_25, mw_1_2, ⟨by decide +kernel, by decide +kernel⟩, by decide +kernel⟩
set_option maxRecDepth 100000 in
set_option maxHeartbeats 4000000 in
theorem kX5_readShape (l : Launch) (hst : l.stackTraces = false) (Z : GZ) (Y : YZ) (a0 a0_bytes a1 a1_sets : Nat) (o0 : OX5) (o1 : OX2) (res : Int32 × OX5 × OX2) (h : fX5_readShape o0 o1 = some res) : XI l Z Y yX5_readShape cX5_readShape 4 .boolean 6 127 0 0 [.ref a0, .ref a1] [(a0, .inr (5, [.ref a0_bytes, .int (q5_length o0), .int (q5_kind o0), .int (q5_start o0), .int (q5_end o0)])), (a0_bytes, .inl (zI Z, 300, .inl (q5_bytes o0))), (a1, .inr (2, [.ref a1_sets, .int (q2_points o1), .int (q2_facets o1)])), (a1_sets, .inl (zI Z, 10, .inl (q2_sets o1)))] (.inr res.1) [(a0, .inr (5, [.ref a0_bytes, .int (q5_length o0), .int (q5_kind res.2.1), .int (q5_start res.2.1), .int (q5_end res.2.1)])), (a0_bytes, .inl (zI Z, 300, .inl (q5_bytes o0))), (a1, .inr (2, [.ref a1_sets, .int (q2_points res.2.2), .int (q2_facets res.2.2)])), (a1_sets, .inl (zI Z, 10, .inl (q2_sets res.2.2)))] := by
  refine XI_of hst (by decide +kernel) (Nat.le_of_ble_eq_true rfl) (fun {p e s m args below meth c} A R hR Q hQ C D hr => ?_)
  unfold fX5_readShape at h
  refine g_lv [0, 1] [(0, .ref a0), (1, .ref a1)] rfl ?_
  refine g_aload_n C dX5_readShape_0 rfl 0 rfl ?_
  obtain ⟨r1, hr2, h⟩ := bd_of h
  refine gx_callVi C D (kX5_shapeHere l hst Z Y a0 a0_bytes o0 r1 hr2) (g_recv C 0 rfl (ci := 5) rfl rfl) myX5_shapeHere 38 mw_2_26 rfl [0, 1] [2, 3] [2, 3, 0, 1] (wr := [(a1, .inr (2, [.ref a1_sets, .int (q2_points o1), .int (q2_facets o1)])), (a1_sets, .inl (zI Z, 10, .inl (q2_sets o1)))]) rfl rfl (by decide) (by decide) (by decide) [(a0, .inr (5, [.ref a0_bytes, .int (q5_length o0), .int (q5_kind o0), .int (q5_start o0), .int (q5_end o0)])), (a0_bytes, .inl (zI Z, 300, .inl (q5_bytes o0))), (a1, .inr (2, [.ref a1_sets, .int (q2_points o1), .int (q2_facets o1)])), (a1_sets, .inl (zI Z, 10, .inl (q2_sets o1)))] rfl (by decide) (Nat.le_of_ble_eq_true rfl) (by rw [hR]; exact Nat.le_of_ble_eq_true rfl) (by rw [hR]; exact Nat.le_of_ble_eq_true rfl) ⟨by rw [hR]; exact Nat.le_of_ble_eq_true rfl, by rw [hR]; exact Nat.le_of_ble_eq_true rfl⟩ rfl dX5_readShape_1 ?_
  refine g_istore_n C dX5_readShape_4 rfl (by decide) [(2, .int r1), (0, .ref a0), (1, .ref a1)] rfl ?_
  refine g_iload_n C dX5_readShape_5 rfl 0 rfl ?_
  refine g_iconst C (-1) dX5_readShape_6 (by decide) ?_
  refine g_icmp_ne C 12 dX5_readShape_7 (by decide) (fun c3 => ?_) (fun c3 => ?_)
  · replace h := it_f c3 h
    refine g_aload_n C dX5_readShape_12 rfl 1 rfl ?_
    obtain ⟨r4, hr5, h⟩ := bd_of h
    refine g_callVv C (kX5_advance l Z a0 a0_bytes o0 r4 hr5) 0 rfl (ci := 5) rfl rfl myX5_advance 28 mw_2_15 rfl [0, 1] [2, 3] [2, 3, 0, 1] (wr := [(a1, .inr (2, [.ref a1_sets, .int (q2_points o1), .int (q2_facets o1)])), (a1_sets, .inl (zI Z, 10, .inl (q2_sets o1)))]) rfl rfl (by decide) (by decide) (by decide) [(a0, .inr (5, [.ref a0_bytes, .int (q5_length o0), .int (q5_kind r4), .int (q5_start r4), .int (q5_end r4)])), (a0_bytes, .inl (zI Z, 300, .inl (q5_bytes o0))), (a1, .inr (2, [.ref a1_sets, .int (q2_points o1), .int (q2_facets o1)])), (a1_sets, .inl (zI Z, 10, .inl (q2_sets o1)))] rfl (by decide) (Nat.le_of_ble_eq_true rfl) (by rw [hR]; exact Nat.le_of_ble_eq_true rfl) (by rw [hR]; exact Nat.le_of_ble_eq_true rfl) ⟨by rw [hR]; exact Nat.le_of_ble_eq_true rfl, by rw [hR]; exact Nat.le_of_ble_eq_true rfl⟩ rfl dX5_readShape_13 ?_
    refine g_aload_n C dX5_readShape_16 rfl 1 rfl ?_
    obtain ⟨r6, hr7, h⟩ := bd_of h
    refine g_callVi C (kX5_numberHere l Z a0 a0_bytes (s5_end (s5_start (s5_kind o0 (q5_kind r4)) (q5_start r4)) (q5_end r4)) r6 hr7) 0 rfl (ci := 5) rfl rfl myX5_numberHere 42 mw_2_87 rfl [0, 1] [2, 3] [2, 3, 0, 1] (wr := [(a1, .inr (2, [.ref a1_sets, .int (q2_points o1), .int (q2_facets o1)])), (a1_sets, .inl (zI Z, 10, .inl (q2_sets o1)))]) rfl rfl (by decide) (by decide) (by decide) [(a0, .inr (5, [.ref a0_bytes, .int (q5_length o0), .int (q5_kind r4), .int (q5_start r4), .int (q5_end r4)])), (a0_bytes, .inl (zI Z, 300, .inl (q5_bytes o0))), (a1, .inr (2, [.ref a1_sets, .int (q2_points o1), .int (q2_facets o1)])), (a1_sets, .inl (zI Z, 10, .inl (q2_sets o1)))] rfl (by decide) (Nat.le_of_ble_eq_true rfl) (by rw [hR]; exact Nat.le_of_ble_eq_true rfl) (by rw [hR]; exact Nat.le_of_ble_eq_true rfl) ⟨by rw [hR]; exact Nat.le_of_ble_eq_true rfl, by rw [hR]; exact Nat.le_of_ble_eq_true rfl⟩ rfl dX5_readShape_17 ?_
    refine g_istore_n C dX5_readShape_20 rfl (by decide) [(3, .int r6), (2, .int r1), (0, .ref a0), (1, .ref a1)] rfl ?_
    refine g_iload_n C dX5_readShape_21 rfl 0 rfl ?_
    refine gx_gets C D.1.2.2.2.2.1 45 mw_2_91 rfl dX5_readShape_22 ?_
    refine g_iload_n C dX5_readShape_25 rfl 1 rfl ?_
    obtain ⟨hi8, h⟩ := ck_of h
    refine gx_ti C D.1.2.2.2.2.2.1 hi8 dX5_readShape_26 ?_
    refine g_icmp_lt C 39 dX5_readShape_27 (by decide) (fun c9 => ?_) (fun c9 => ?_)
    · replace h := it_t c9 h
      refine g_iconst C 0 dX5_readShape_39 (by decide) ?_
      obtain rfl := Option.some.inj h
      subst hQ
      exact gx_iret C D rfl rfl hr (Nat.le_of_ble_eq_true rfl) (Nat.le_of_ble_eq_true rfl) dX5_readShape_40 [0, 1, 2, 3] rfl (by decide)
    · replace h := it_f c9 h
      refine g_iload_n C dX5_readShape_30 rfl 0 rfl ?_
      refine gx_gets C D.1.2.2.2.2.2.2.1 48 mw_2_93 rfl dX5_readShape_31 ?_
      refine g_iload_n C dX5_readShape_34 rfl 1 rfl ?_
      obtain ⟨hi10, h⟩ := ck_of h
      refine gx_ti C D.1.2.2.2.2.2.2.2.1 hi10 dX5_readShape_35 ?_
      refine g_icmp_le C 41 dX5_readShape_36 (by decide) (fun c11 => ?_) (fun c11 => ?_)
      · replace h := it_t c11 h
        refine g_iload_n C dX5_readShape_41 rfl 1 rfl ?_
        refine g_iload_n C dX5_readShape_42 rfl 0 rfl ?_
        refine g_aload_n C dX5_readShape_43 rfl 3 rfl ?_
        obtain ⟨r12, hr13, h⟩ := bd_of h
        refine g_callSv C (kX5_lay l Z a1 a1_sets r1 r6 o1 r12 hr13) myX5_lay 51 mw_2_95 rfl [2, 3] [0, 1] [0, 1, 2, 3] (wr := [(a0, .inr (5, [.ref a0_bytes, .int (q5_length o0), .int (q5_kind r4), .int (q5_start r4), .int (q5_end r4)])), (a0_bytes, .inl (zI Z, 300, .inl (q5_bytes o0)))]) rfl rfl (by decide) (by decide) (by decide) [(a0, .inr (5, [.ref a0_bytes, .int (q5_length o0), .int (q5_kind r4), .int (q5_start r4), .int (q5_end r4)])), (a0_bytes, .inl (zI Z, 300, .inl (q5_bytes o0))), (a1, .inr (2, [.ref a1_sets, .int (q2_points r12), .int (q2_facets r12)])), (a1_sets, .inl (zI Z, 10, .inl (q2_sets r12)))] rfl (by decide) (Nat.le_of_ble_eq_true rfl) (by rw [hR]; exact Nat.le_of_ble_eq_true rfl) (by rw [hR]; exact Nat.le_of_ble_eq_true rfl) ⟨by rw [hR]; exact Nat.le_of_ble_eq_true rfl, by rw [hR]; exact Nat.le_of_ble_eq_true rfl⟩ rfl dX5_readShape_44 ?_
        refine g_aload_n C dX5_readShape_47 rfl 2 rfl ?_
        obtain ⟨r14, hr15, h⟩ := bd_of h
        refine g_callVv C (kX5_advance l Z a0 a0_bytes (s5_end (s5_start (s5_kind o0 (q5_kind r4)) (q5_start r4)) (q5_end r4)) r14 hr15) 0 rfl (ci := 5) rfl rfl myX5_advance 28 mw_2_15 rfl [0, 1] [2, 3] [2, 3, 0, 1] (wr := [(a1, .inr (2, [.ref a1_sets, .int (q2_points r12), .int (q2_facets r12)])), (a1_sets, .inl (zI Z, 10, .inl (q2_sets r12)))]) rfl rfl (by decide) (by decide) (by decide) [(a0, .inr (5, [.ref a0_bytes, .int (q5_length o0), .int (q5_kind r14), .int (q5_start r14), .int (q5_end r14)])), (a0_bytes, .inl (zI Z, 300, .inl (q5_bytes o0))), (a1, .inr (2, [.ref a1_sets, .int (q2_points r12), .int (q2_facets r12)])), (a1_sets, .inl (zI Z, 10, .inl (q2_sets r12)))] rfl (by decide) (Nat.le_of_ble_eq_true rfl) (by rw [hR]; exact Nat.le_of_ble_eq_true rfl) (by rw [hR]; exact Nat.le_of_ble_eq_true rfl) ⟨by rw [hR]; exact Nat.le_of_ble_eq_true rfl, by rw [hR]; exact Nat.le_of_ble_eq_true rfl⟩ rfl dX5_readShape_48 ?_
        refine g_iconst C 1 dX5_readShape_51 (by decide) ?_
        obtain rfl := Option.some.inj h
        subst hQ
        exact gx_iret C D rfl rfl hr (Nat.le_of_ble_eq_true rfl) (Nat.le_of_ble_eq_true rfl) dX5_readShape_52 [0, 1, 2, 3] rfl (by decide)
      · replace h := it_f c11 h
        refine g_iconst C 0 dX5_readShape_39 (by decide) ?_
        obtain rfl := Option.some.inj h
        subst hQ
        exact gx_iret C D rfl rfl hr (Nat.le_of_ble_eq_true rfl) (Nat.le_of_ble_eq_true rfl) dX5_readShape_40 [0, 1, 2, 3] rfl (by decide)
  · replace h := it_t c3 h
    refine g_iconst C 0 dX5_readShape_10 (by decide) ?_
    obtain rfl := Option.some.inj h
    subst hQ
    exact gx_iret C D rfl rfl hr (Nat.le_of_ble_eq_true rfl) (Nat.le_of_ble_eq_true rfl) dX5_readShape_11 [0, 1, 2, 3] rfl (by decide)
def fX5_readFacet_J95 (o0 : OX5) (o1 : OX2) (v7 : Int32 × Int32 × Int32 × Int32 × Int32) : Option (Int32 × OX5 × OX2) :=
  (fX2_add o1 v7.1).bind fun r8 =>
  (some (1, (s5_end (s5_start (s5_kind o0 v7.2.2.1) v7.2.2.2.1) v7.2.2.2.2), (s2_facets (s2_sets o1 (q2_sets r8)) (q2_facets r8))))
def fX5_readFacet_J46 (o0 : OX5) (o1 : OX2) (v7 : Int32 × Int32 × Int32 × Int32 × Int32) : Option ((Int32 × Int32 × Int32 × Int32 × Int32) ⊕ (Int32 × OX5 × OX2)) :=
  (fX5_numberHere (s5_end (s5_start (s5_kind o0 v7.2.2.1) v7.2.2.2.1) v7.2.2.2.2)).bind fun r12 =>
  (if r12 < 0 then (ex (some (0, (s5_end (s5_start (s5_kind o0 v7.2.2.1) v7.2.2.2.1) v7.2.2.2.2), o1)))
  else (if (q2_points o1) ≤ r12 then (ex (some (0, (s5_end (s5_start (s5_kind o0 v7.2.2.1) v7.2.2.2.1) v7.2.2.2.2), o1)))
  else (if ((jshr v7.1 r12) &&& 1) = 1 then (ex (some (0, (s5_end (s5_start (s5_kind o0 v7.2.2.1) v7.2.2.2.1) v7.2.2.2.2), o1)))
  else ((fX5_advance (s5_end (s5_start (s5_kind o0 v7.2.2.1) v7.2.2.2.1) v7.2.2.2.2)).bind fun r19 =>
  (some (.inl ((v7.1 ||| (jshl 1 r12)), (v7.2.1 + 1), (q5_kind r19), (q5_start r19), (q5_end r19))))))))
def fX5_readFacet_L28 (o0 : OX5) (o1 : OX2) (v7 : Int32 × Int32 × Int32 × Int32 × Int32) : Option ((Int32 × Int32 × Int32 × Int32 × Int32) ⊕ (Int32 × OX5 × OX2)) :=
  if 8 < v7.2.1 then (ex (fX5_readFacet_J95 o0 o1 v7))
  else (if v7.1 = 0 then (fX5_readFacet_J46 o0 o1 v7)
  else (if v7.2.2.1 = 2 then (fX5_readFacet_J46 o0 o1 v7)
  else (ex (fX5_readFacet_J95 o0 o1 v7))))
def fX5_readFacet (o0 : OX5) (o1 : OX2) : Option (Int32 × OX5 × OX2) :=
  (fX5_isHere o0 5).bind fun r1 =>
  (if r1 = 0 then (some (0, o0, o1))
  else (if (q2_facets o1) < 10 then ((fX5_advance o0).bind fun r5 =>
  (lp (fX5_readFacet_L28 o0 o1) lpN (0, 0, (q5_kind r5), (q5_start r5), (q5_end r5))))
  else (some (0, o0, o1))))
theorem myX5_readFacet : MYv yX5_readFacet cX5_readFacet 5 (some .boolean) 1 := ⟨mw_2_121, ms_7, mw_2_122, mw_1_2, ⟨by decide +kernel, by decide +kernel⟩, by decide +kernel⟩
set_option maxRecDepth 100000 in
set_option maxHeartbeats 4000000 in
theorem kX5_readFacet (l : Launch) (hst : l.stackTraces = false) (Z : GZ) (Y : YZ) (a0 a0_bytes a1 a1_sets : Nat) (o0 : OX5) (o1 : OX2) (res : Int32 × OX5 × OX2) (h : fX5_readFacet o0 o1 = some res) : XI l Z Y yX5_readFacet cX5_readFacet 5 .boolean 5 107 0 0 [.ref a0, .ref a1] [(a0, .inr (5, [.ref a0_bytes, .int (q5_length o0), .int (q5_kind o0), .int (q5_start o0), .int (q5_end o0)])), (a0_bytes, .inl (zI Z, 300, .inl (q5_bytes o0))), (a1, .inr (2, [.ref a1_sets, .int (q2_points o1), .int (q2_facets o1)])), (a1_sets, .inl (zI Z, 10, .inl (q2_sets o1)))] (.inr res.1) [(a0, .inr (5, [.ref a0_bytes, .int (q5_length o0), .int (q5_kind res.2.1), .int (q5_start res.2.1), .int (q5_end res.2.1)])), (a0_bytes, .inl (zI Z, 300, .inl (q5_bytes o0))), (a1, .inr (2, [.ref a1_sets, .int (q2_points o1), .int (q2_facets res.2.2)])), (a1_sets, .inl (zI Z, 10, .inl (q2_sets res.2.2)))] := by
  refine XI_of hst (by decide +kernel) (Nat.le_of_ble_eq_true rfl) (fun {p e s m args below meth c} A R hR Q hQ C D hr => ?_)
  unfold fX5_readFacet at h
  refine g_lv [0, 1] [(0, .ref a0), (1, .ref a1)] rfl ?_
  refine g_aload_n C dX5_readFacet_0 rfl 0 rfl ?_
  refine gx_ldcs C 55 ((D.1.2.1 5 (by decide)).1) dX5_readFacet_1 ?_
  obtain ⟨r1, hr2, h⟩ := bd_of h
  refine gx_callVi C D (kX5_isHere l hst Z Y a0 a0_bytes o0 5 r1 hr2) (g_recv C 0 rfl (ci := 5) rfl rfl) myX5_isHere 57 mw_2_31 rfl [0, 1] [2, 3] [2, 3, 0, 1] (wr := [(a1, .inr (2, [.ref a1_sets, .int (q2_points o1), .int (q2_facets o1)])), (a1_sets, .inl (zI Z, 10, .inl (q2_sets o1)))]) rfl rfl (by decide) (by decide) (by decide) [(a0, .inr (5, [.ref a0_bytes, .int (q5_length o0), .int (q5_kind o0), .int (q5_start o0), .int (q5_end o0)])), (a0_bytes, .inl (zI Z, 300, .inl (q5_bytes o0))), (a1, .inr (2, [.ref a1_sets, .int (q2_points o1), .int (q2_facets o1)])), (a1_sets, .inl (zI Z, 10, .inl (q2_sets o1)))] rfl (by decide) (Nat.le_of_ble_eq_true rfl) (by rw [hR]; exact Nat.le_of_ble_eq_true rfl) (by rw [hR]; exact Nat.le_of_ble_eq_true rfl) ⟨by rw [hR]; exact Nat.le_of_ble_eq_true rfl, by rw [hR]; exact Nat.le_of_ble_eq_true rfl⟩ rfl dX5_readFacet_3 ?_
  refine g_if_eq C 18 dX5_readFacet_6 (by decide) (fun c3 => ?_) (fun c3 => ?_)
  · replace h := it_t c3 h
    refine g_iconst C 0 dX5_readFacet_18 (by decide) ?_
    obtain rfl := Option.some.inj h
    subst hQ
    exact gx_iret C D rfl rfl hr (Nat.le_of_ble_eq_true rfl) (Nat.le_of_ble_eq_true rfl) dX5_readFacet_19 [0, 1, 2, 3] rfl (by decide)
  · replace h := it_f c3 h
    refine g_aload_n C dX5_readFacet_9 rfl 1 rfl ?_
    refine g_get C 2 61 gin2 2 rfl rfl 2 (by decide) mw_1_82 rfl rfl dX5_readFacet_10 ?_
    refine g_bipush C 10 dX5_readFacet_13 (by decide) ?_
    refine g_icmp_lt C 20 dX5_readFacet_15 (by decide) (fun c4 => ?_) (fun c4 => ?_)
    · replace h := it_t c4 h
      refine g_aload_n C dX5_readFacet_20 rfl 0 rfl ?_
      obtain ⟨r5, hr6, h⟩ := bd_of h
      refine g_callVv C (kX5_advance l Z a0 a0_bytes o0 r5 hr6) 0 rfl (ci := 5) rfl rfl myX5_advance 28 mw_2_15 rfl [0, 1] [2, 3] [2, 3, 0, 1] (wr := [(a1, .inr (2, [.ref a1_sets, .int (q2_points o1), .int (q2_facets o1)])), (a1_sets, .inl (zI Z, 10, .inl (q2_sets o1)))]) rfl rfl (by decide) (by decide) (by decide) [(a0, .inr (5, [.ref a0_bytes, .int (q5_length o0), .int (q5_kind r5), .int (q5_start r5), .int (q5_end r5)])), (a0_bytes, .inl (zI Z, 300, .inl (q5_bytes o0))), (a1, .inr (2, [.ref a1_sets, .int (q2_points o1), .int (q2_facets o1)])), (a1_sets, .inl (zI Z, 10, .inl (q2_sets o1)))] rfl (by decide) (Nat.le_of_ble_eq_true rfl) (by rw [hR]; exact Nat.le_of_ble_eq_true rfl) (by rw [hR]; exact Nat.le_of_ble_eq_true rfl) ⟨by rw [hR]; exact Nat.le_of_ble_eq_true rfl, by rw [hR]; exact Nat.le_of_ble_eq_true rfl⟩ rfl dX5_readFacet_21 ?_
      refine g_iconst C 0 dX5_readFacet_24 (by decide) ?_
      refine g_istore_n C dX5_readFacet_25 rfl (by decide) [(2, .int 0), (0, .ref a0), (1, .ref a1)] rfl ?_
      refine g_iconst C 0 dX5_readFacet_26 (by decide) ?_
      refine g_istore_n C dX5_readFacet_27 rfl (by decide) [(3, .int 0), (2, .int 0), (0, .ref a0), (1, .ref a1)] rfl ?_
      refine g_lv [2, 3, 1, 0] [(0, .ref a0), (1, .ref a1), (2, .int 0), (3, .int 0)] rfl ?_
      refine g_loop (lvf := fun v7 => [(0, .ref a0), (1, .ref a1), (2, .int v7.1), (3, .int v7.2.1)]) (wsf := fun v7 => [(a0, .inr (5, [.ref a0_bytes, .int (q5_length o0), .int v7.2.2.1, .int v7.2.2.2.1, .int v7.2.2.2.2])), (a0_bytes, .inl (zI Z, 300, .inl (q5_bytes o0))), (a1, .inr (2, [.ref a1_sets, .int (q2_points o1), .int (q2_facets o1)])), (a1_sets, .inl (zI Z, 10, .inl (q2_sets o1)))]) h (fun v7 y1 h hk1 hx1 => ?_)
      refine g_eq (lv1 := [(0, .ref a0), (1, .ref a1), (2, .int v7.1), (3, .int v7.2.1)]) (st1 := []) (ws1 := [(a0, .inr (5, [.ref a0_bytes, .int (q5_length o0), .int v7.2.2.1, .int v7.2.2.2.1, .int v7.2.2.2.2])), (a0_bytes, .inl (zI Z, 300, .inl (q5_bytes o0))), (a1, .inr (2, [.ref a1_sets, .int (q2_points o1), .int (q2_facets o1)])), (a1_sets, .inl (zI Z, 10, .inl (q2_sets o1)))]) rfl rfl rfl rfl ?_
      unfold fX5_readFacet_L28 at h
      refine g_iload_n C dX5_readFacet_28 rfl 3 rfl ?_
      refine g_bipush C 8 dX5_readFacet_29 (by decide) ?_
      have hj95 : fX5_readFacet_J95 o0 o1 v7 = some res → Gw p l e R s m args below meth c 5 Z A Q 0 0 95 [(1, .ref a1), (2, .int v7.1)] [] [(a0, .inr (5, [.ref a0_bytes, .int (q5_length o0), .int v7.2.2.1, .int v7.2.2.2.1, .int v7.2.2.2.2])), (a0_bytes, .inl (zI Z, 300, .inl (q5_bytes o0))), (a1, .inr (2, [.ref a1_sets, .int (q2_points o1), .int (q2_facets o1)])), (a1_sets, .inl (zI Z, 10, .inl (q2_sets o1)))] := by
        intro h
        unfold fX5_readFacet_J95 at h
        refine g_aload_n C dX5_readFacet_95 rfl 0 rfl ?_
        refine g_iload_n C dX5_readFacet_96 rfl 1 rfl ?_
        obtain ⟨r8, hr9, h⟩ := bd_of h
        refine g_callVv C (kX2_add l Z a1 a1_sets o1 v7.1 r8 hr9) 0 rfl (ci := 2) rfl rfl myX2_add 69 mw_2_106 rfl [2, 3] [0, 1] [0, 1, 2, 3] (wr := [(a0, .inr (5, [.ref a0_bytes, .int (q5_length o0), .int v7.2.2.1, .int v7.2.2.2.1, .int v7.2.2.2.2])), (a0_bytes, .inl (zI Z, 300, .inl (q5_bytes o0)))]) rfl rfl (by decide) (by decide) (by decide) [(a0, .inr (5, [.ref a0_bytes, .int (q5_length o0), .int v7.2.2.1, .int v7.2.2.2.1, .int v7.2.2.2.2])), (a0_bytes, .inl (zI Z, 300, .inl (q5_bytes o0))), (a1, .inr (2, [.ref a1_sets, .int (q2_points o1), .int (q2_facets r8)])), (a1_sets, .inl (zI Z, 10, .inl (q2_sets r8)))] rfl (by decide) (Nat.le_of_ble_eq_true rfl) (by rw [hR]; exact Nat.le_of_ble_eq_true rfl) (by rw [hR]; exact Nat.le_of_ble_eq_true rfl) ⟨by rw [hR]; exact Nat.le_of_ble_eq_true rfl, by rw [hR]; exact Nat.le_of_ble_eq_true rfl⟩ rfl dX5_readFacet_97 ?_
        refine g_iconst C 1 dX5_readFacet_100 (by decide) ?_
        obtain rfl := Option.some.inj h
        subst hQ
        exact gx_iret C D rfl rfl hr (Nat.le_of_ble_eq_true rfl) (Nat.le_of_ble_eq_true rfl) dX5_readFacet_101 [0, 1, 2, 3] rfl (by decide)
      refine g_icmp_gt C 95 dX5_readFacet_31 (by decide) (fun c10 => ?_) (fun c10 => ?_)
      · replace h := it_t c10 h
        obtain ⟨r11, h, hy⟩ := ex_of h
        rw [hx1 r11 hy] at h
        refine g_lv [1, 2] [(1, .ref a1), (2, .int v7.1)] rfl ?_
        exact hj95 h
      · replace h := it_f c10 h
        refine g_iload_n C dX5_readFacet_34 rfl 2 rfl ?_
        have hj46 : fX5_readFacet_J46 o0 o1 v7 = some y1 → Gw p l e R s m args below meth c 5 Z A Q 0 0 46 [(0, .ref a0), (1, .ref a1), (2, .int v7.1), (3, .int v7.2.1)] [] [(a0, .inr (5, [.ref a0_bytes, .int (q5_length o0), .int v7.2.2.1, .int v7.2.2.2.1, .int v7.2.2.2.2])), (a0_bytes, .inl (zI Z, 300, .inl (q5_bytes o0))), (a1, .inr (2, [.ref a1_sets, .int (q2_points o1), .int (q2_facets o1)])), (a1_sets, .inl (zI Z, 10, .inl (q2_sets o1)))] := by
          intro h
          unfold fX5_readFacet_J46 at h
          refine g_aload_n C dX5_readFacet_46 rfl 0 rfl ?_
          obtain ⟨r12, hr13, h⟩ := bd_of h
          refine g_callVi C (kX5_numberHere l Z a0 a0_bytes (s5_end (s5_start (s5_kind o0 v7.2.2.1) v7.2.2.2.1) v7.2.2.2.2) r12 hr13) 0 rfl (ci := 5) rfl rfl myX5_numberHere 42 mw_2_87 rfl [0, 1] [2, 3] [2, 3, 0, 1] (wr := [(a1, .inr (2, [.ref a1_sets, .int (q2_points o1), .int (q2_facets o1)])), (a1_sets, .inl (zI Z, 10, .inl (q2_sets o1)))]) rfl rfl (by decide) (by decide) (by decide) [(a0, .inr (5, [.ref a0_bytes, .int (q5_length o0), .int v7.2.2.1, .int v7.2.2.2.1, .int v7.2.2.2.2])), (a0_bytes, .inl (zI Z, 300, .inl (q5_bytes o0))), (a1, .inr (2, [.ref a1_sets, .int (q2_points o1), .int (q2_facets o1)])), (a1_sets, .inl (zI Z, 10, .inl (q2_sets o1)))] rfl (by decide) (Nat.le_of_ble_eq_true rfl) (by rw [hR]; exact Nat.le_of_ble_eq_true rfl) (by rw [hR]; exact Nat.le_of_ble_eq_true rfl) ⟨by rw [hR]; exact Nat.le_of_ble_eq_true rfl, by rw [hR]; exact Nat.le_of_ble_eq_true rfl⟩ rfl dX5_readFacet_47 ?_
          refine g_istore C dX5_readFacet_50 (by decide) [(4, .int r12), (0, .ref a0), (1, .ref a1), (2, .int v7.1), (3, .int v7.2.1)] rfl ?_
          refine g_iload C dX5_readFacet_52 0 rfl ?_
          refine g_if_lt C 76 dX5_readFacet_54 (by decide) (fun c14 => ?_) (fun c14 => ?_)
          · replace h := it_t c14 h
            obtain ⟨r15, h, hy⟩ := ex_of h
            rw [hx1 r15 hy] at h
            refine g_iconst C 0 dX5_readFacet_76 (by decide) ?_
            obtain rfl := Option.some.inj h
            subst hQ
            exact gx_iret C D rfl rfl hr (Nat.le_of_ble_eq_true rfl) (Nat.le_of_ble_eq_true rfl) dX5_readFacet_77 [0, 1, 2, 3] rfl (by decide)
          · replace h := it_f c14 h
            refine g_iload C dX5_readFacet_57 0 rfl ?_
            refine g_aload_n C dX5_readFacet_59 rfl 2 rfl ?_
            refine g_get C 2 66 gin2 2 rfl rfl 1 (by decide) mw_1_77 rfl rfl dX5_readFacet_60 ?_
            refine g_icmp_ge C 76 dX5_readFacet_63 (by decide) (fun c16 => ?_) (fun c16 => ?_)
            · replace h := it_t c16 h
              obtain ⟨r17, h, hy⟩ := ex_of h
              rw [hx1 r17 hy] at h
              refine g_iconst C 0 dX5_readFacet_76 (by decide) ?_
              obtain rfl := Option.some.inj h
              subst hQ
              exact gx_iret C D rfl rfl hr (Nat.le_of_ble_eq_true rfl) (Nat.le_of_ble_eq_true rfl) dX5_readFacet_77 [0, 1, 2, 3] rfl (by decide)
            · replace h := it_f c16 h
              refine g_iload_n C dX5_readFacet_66 rfl 3 rfl ?_
              refine g_iload C dX5_readFacet_67 0 rfl ?_
              refine g_ishr C dX5_readFacet_69 ?_
              refine g_iconst C 1 dX5_readFacet_70 (by decide) ?_
              refine g_iand C dX5_readFacet_71 ?_
              refine g_iconst C 1 dX5_readFacet_72 (by decide) ?_
              refine g_icmp_ne C 78 dX5_readFacet_73 (by decide) (fun c18 => ?_) (fun c18 => ?_)
              · replace h := it_f c18 h
                refine g_iload_n C dX5_readFacet_78 rfl 3 rfl ?_
                refine g_iconst C 1 dX5_readFacet_79 (by decide) ?_
                refine g_iload C dX5_readFacet_80 0 rfl ?_
                refine g_ishl C dX5_readFacet_82 ?_
                refine g_ior C dX5_readFacet_83 ?_
                refine g_istore_n C dX5_readFacet_84 rfl (by decide) [(2, .int (v7.1 ||| (jshl 1 r12))), (4, .int r12), (0, .ref a0), (1, .ref a1), (3, .int v7.2.1)] rfl ?_
                refine g_aload_n C dX5_readFacet_85 rfl 2 rfl ?_
                obtain ⟨r19, hr20, h⟩ := bd_of h
                refine g_callVv C (kX5_advance l Z a0 a0_bytes (s5_end (s5_start (s5_kind o0 v7.2.2.1) v7.2.2.2.1) v7.2.2.2.2) r19 hr20) 0 rfl (ci := 5) rfl rfl myX5_advance 28 mw_2_15 rfl [0, 1] [2, 3] [2, 3, 0, 1] (wr := [(a1, .inr (2, [.ref a1_sets, .int (q2_points o1), .int (q2_facets o1)])), (a1_sets, .inl (zI Z, 10, .inl (q2_sets o1)))]) rfl rfl (by decide) (by decide) (by decide) [(a0, .inr (5, [.ref a0_bytes, .int (q5_length o0), .int (q5_kind r19), .int (q5_start r19), .int (q5_end r19)])), (a0_bytes, .inl (zI Z, 300, .inl (q5_bytes o0))), (a1, .inr (2, [.ref a1_sets, .int (q2_points o1), .int (q2_facets o1)])), (a1_sets, .inl (zI Z, 10, .inl (q2_sets o1)))] rfl (by decide) (Nat.le_of_ble_eq_true rfl) (by rw [hR]; exact Nat.le_of_ble_eq_true rfl) (by rw [hR]; exact Nat.le_of_ble_eq_true rfl) ⟨by rw [hR]; exact Nat.le_of_ble_eq_true rfl, by rw [hR]; exact Nat.le_of_ble_eq_true rfl⟩ rfl dX5_readFacet_86 ?_
                refine g_iinc C (v7.2.1 + 1) dX5_readFacet_89 4 rfl rfl (by decide) [(3, .int (v7.2.1 + 1)), (2, .int (v7.1 ||| (jshl 1 r12))), (4, .int r12), (0, .ref a0), (1, .ref a1)] rfl ?_
                refine g_goto C 28 dX5_readFacet_92 (by decide) ?_
                refine g_lv [3, 4, 1, 0] [(0, .ref a0), (1, .ref a1), (2, .int (v7.1 ||| (jshl 1 r12))), (3, .int (v7.2.1 + 1))] rfl ?_
                exact hk1 ((v7.1 ||| (jshl 1 r12)), (v7.2.1 + 1), (q5_kind r19), (q5_start r19), (q5_end r19)) (Option.some.inj h).symm
              · replace h := it_t c18 h
                obtain ⟨r21, h, hy⟩ := ex_of h
                rw [hx1 r21 hy] at h
                refine g_iconst C 0 dX5_readFacet_76 (by decide) ?_
                obtain rfl := Option.some.inj h
                subst hQ
                exact gx_iret C D rfl rfl hr (Nat.le_of_ble_eq_true rfl) (Nat.le_of_ble_eq_true rfl) dX5_readFacet_77 [0, 1, 2, 3] rfl (by decide)
        refine g_if_eq C 46 dX5_readFacet_35 (by decide) (fun c22 => ?_) (fun c22 => ?_)
        · replace h := it_t c22 h
          exact hj46 h
        · replace h := it_f c22 h
          refine g_aload_n C dX5_readFacet_38 rfl 0 rfl ?_
          refine g_get C 5 19 gin5 0 rfl rfl 2 (by decide) mw_1_41 rfl rfl dX5_readFacet_39 ?_
          refine g_iconst C 2 dX5_readFacet_42 (by decide) ?_
          refine g_icmp_ne C 95 dX5_readFacet_43 (by decide) (fun c23 => ?_) (fun c23 => ?_)
          · replace h := it_f c23 h
            obtain ⟨r24, h, hy⟩ := ex_of h
            rw [hx1 r24 hy] at h
            refine g_lv [1, 2] [(1, .ref a1), (2, .int v7.1)] rfl ?_
            exact hj95 h
          · replace h := it_t c23 h
            exact hj46 h
    · replace h := it_f c4 h
      refine g_iconst C 0 dX5_readFacet_18 (by decide) ?_
      obtain rfl := Option.some.inj h
      subst hQ
      exact gx_iret C D rfl rfl hr (Nat.le_of_ble_eq_true rfl) (Nat.le_of_ble_eq_true rfl) dX5_readFacet_19 [0, 1, 2, 3] rfl (by decide)
def fX5_read_J62 (o0 : OX5) (r3 : Int32 × OX5 × OX2) (v6 : Int32 × Int32 × Int32 × Int32 × Int32 × (Nat → Int32)) : Option (Int32 × OX5 × OX2) :=
  if v6.2.1 = 0 then (some ((-1), (s5_end (s5_start (s5_kind o0 v6.2.1) v6.2.2.1) v6.2.2.2.1), (s2_facets (s2_sets r3.2.2 v6.2.2.2.2.2) v6.2.2.2.2.1)))
  else (some (v6.2.2.1, (s5_end (s5_start (s5_kind o0 v6.2.1) v6.2.2.1) v6.2.2.2.1), (s2_facets (s2_sets r3.2.2 v6.2.2.2.2.2) v6.2.2.2.2.1)))
def fX5_read_L24 (o0 : OX5) (r3 : Int32 × OX5 × OX2) (v6 : Int32 × Int32 × Int32 × Int32 × Int32 × (Nat → Int32)) : Option ((Int32 × Int32 × Int32 × Int32 × Int32 × (Nat → Int32)) ⊕ (Int32 × OX5 × OX2)) :=
  if 300 ≤ v6.1 then (ex (fX5_read_J62 o0 r3 v6))
  else (if v6.2.1 = 3 then ((fX5_advance (s5_end (s5_start (s5_kind o0 v6.2.1) v6.2.2.1) v6.2.2.2.1)).bind fun r12 =>
  ((fX5_readFacet (s5_end (s5_start (s5_kind o0 (q5_kind r12)) (q5_start r12)) (q5_end r12)) (s2_facets (s2_sets r3.2.2 v6.2.2.2.2.2) v6.2.2.2.2.1)).bind fun r14 =>
  (if r14.1 = 0 then (ex (some ((q5_start r14.2.1), (s5_end (s5_start (s5_kind o0 (q5_kind r14.2.1)) (q5_start r14.2.1)) (q5_end r14.2.1)), (s2_facets (s2_sets r3.2.2 (q2_sets r14.2.2)) (q2_facets r14.2.2)))))
  else (some (.inl ((v6.1 + 1), (q5_kind r14.2.1), (q5_start r14.2.1), (q5_end r14.2.1), (q2_facets r14.2.2), (q2_sets r14.2.2)))))))
  else (ex (fX5_read_J62 o0 r3 v6)))
def fX5_read (o0 : OX5) (o1 : OX2) : Option (Int32 × OX5 × OX2) :=
  (fX5_advance (s5_end o0 0)).bind fun r1 =>
  ((fX5_readShape (s5_end (s5_start (s5_kind o0 (q5_kind r1)) (q5_start r1)) (q5_end r1)) o1).bind fun r3 =>
  (if r3.1 = 0 then (some ((q5_start r3.2.1), (s5_end (s5_start (s5_kind o0 (q5_kind r3.2.1)) (q5_start r3.2.1)) (q5_end r3.2.1)), r3.2.2))
  else (lp (fX5_read_L24 o0 r3) lpN (0, (q5_kind r3.2.1), (q5_start r3.2.1), (q5_end r3.2.1), (q2_facets r3.2.2), (q2_sets r3.2.2)))))
theorem myX5_read : MYv yX5_read cX5_read 3 (some .int) 1 := ⟨mw_2_12, mw_2_13, mw_2_14, mw_1_2, ⟨by decide +kernel, by decide +kernel⟩, by decide +kernel⟩
set_option maxRecDepth 100000 in
set_option maxHeartbeats 4000000 in
theorem kX5_read (l : Launch) (hst : l.stackTraces = false) (Z : GZ) (Y : YZ) (a0 a0_bytes a1 a1_sets : Nat) (o0 : OX5) (o1 : OX2) (res : Int32 × OX5 × OX2) (h : fX5_read o0 o1 = some res) : XI l Z Y yX5_read cX5_read 3 .int 7 150 0 0 [.ref a0, .ref a1] [(a0, .inr (5, [.ref a0_bytes, .int (q5_length o0), .int (q5_kind o0), .int (q5_start o0), .int (q5_end o0)])), (a0_bytes, .inl (zI Z, 300, .inl (q5_bytes o0))), (a1, .inr (2, [.ref a1_sets, .int (q2_points o1), .int (q2_facets o1)])), (a1_sets, .inl (zI Z, 10, .inl (q2_sets o1)))] (.inr res.1) [(a0, .inr (5, [.ref a0_bytes, .int (q5_length o0), .int (q5_kind res.2.1), .int (q5_start res.2.1), .int (q5_end res.2.1)])), (a0_bytes, .inl (zI Z, 300, .inl (q5_bytes o0))), (a1, .inr (2, [.ref a1_sets, .int (q2_points res.2.2), .int (q2_facets res.2.2)])), (a1_sets, .inl (zI Z, 10, .inl (q2_sets res.2.2)))] := by
  refine XI_of hst (by decide +kernel) (Nat.le_of_ble_eq_true rfl) (fun {p e s m args below meth c} A R hR Q hQ C D hr => ?_)
  unfold fX5_read at h
  refine g_lv [0, 1] [(0, .ref a0), (1, .ref a1)] rfl ?_
  refine g_aload_n C dX5_read_0 rfl 0 rfl ?_
  refine g_iconst C 0 dX5_read_1 (by decide) ?_
  refine g_put C 5 25 gin5 tyX5 tyX5_ok nmX5 0 rfl rfl 4 (by decide) mw_1_43 rfl rfl (ty := .int) (by decide +kernel) rfl rfl (Nat.le_of_ble_eq_true rfl) [(a0, .inr (5, [.ref a0_bytes, .int (q5_length o0), .int (q5_kind o0), .int (q5_start o0), .int 0])), (a0_bytes, .inl (zI Z, 300, .inl (q5_bytes o0))), (a1, .inr (2, [.ref a1_sets, .int (q2_points o1), .int (q2_facets o1)])), (a1_sets, .inl (zI Z, 10, .inl (q2_sets o1)))] rfl dX5_read_2 ?_
  refine g_aload_n C dX5_read_5 rfl 0 rfl ?_
  obtain ⟨r1, hr2, h⟩ := bd_of h
  refine g_callVv C (kX5_advance l Z a0 a0_bytes (s5_end o0 0) r1 hr2) 0 rfl (ci := 5) rfl rfl myX5_advance 28 mw_2_15 rfl [0, 1] [2, 3] [2, 3, 0, 1] (wr := [(a1, .inr (2, [.ref a1_sets, .int (q2_points o1), .int (q2_facets o1)])), (a1_sets, .inl (zI Z, 10, .inl (q2_sets o1)))]) rfl rfl (by decide) (by decide) (by decide) [(a0, .inr (5, [.ref a0_bytes, .int (q5_length o0), .int (q5_kind r1), .int (q5_start r1), .int (q5_end r1)])), (a0_bytes, .inl (zI Z, 300, .inl (q5_bytes o0))), (a1, .inr (2, [.ref a1_sets, .int (q2_points o1), .int (q2_facets o1)])), (a1_sets, .inl (zI Z, 10, .inl (q2_sets o1)))] rfl (by decide) (Nat.le_of_ble_eq_true rfl) (by rw [hR]; exact Nat.le_of_ble_eq_true rfl) (by rw [hR]; exact Nat.le_of_ble_eq_true rfl) ⟨by rw [hR]; exact Nat.le_of_ble_eq_true rfl, by rw [hR]; exact Nat.le_of_ble_eq_true rfl⟩ rfl dX5_read_6 ?_
  refine g_aload_n C dX5_read_9 rfl 0 rfl ?_
  refine g_aload_n C dX5_read_10 rfl 1 rfl ?_
  obtain ⟨r3, hr4, h⟩ := bd_of h
  refine gx_callVi C D (kX5_readShape l hst Z Y a0 a0_bytes a1 a1_sets (s5_end (s5_start (s5_kind o0 (q5_kind r1)) (q5_start r1)) (q5_end r1)) o1 r3 hr4) (g_recv C 0 rfl (ci := 5) rfl rfl) myX5_readShape 31 mw_2_22 rfl [0, 1, 2, 3] [] [0, 1, 2, 3] (wr := []) rfl rfl (by decide) (by decide) (by decide) [(a0, .inr (5, [.ref a0_bytes, .int (q5_length o0), .int (q5_kind r3.2.1), .int (q5_start r3.2.1), .int (q5_end r3.2.1)])), (a0_bytes, .inl (zI Z, 300, .inl (q5_bytes o0))), (a1, .inr (2, [.ref a1_sets, .int (q2_points r3.2.2), .int (q2_facets r3.2.2)])), (a1_sets, .inl (zI Z, 10, .inl (q2_sets r3.2.2)))] rfl (by decide) (Nat.le_of_ble_eq_true rfl) (by rw [hR]; exact Nat.le_of_ble_eq_true rfl) (by rw [hR]; exact Nat.le_of_ble_eq_true rfl) ⟨by rw [hR]; exact Nat.le_of_ble_eq_true rfl, by rw [hR]; exact Nat.le_of_ble_eq_true rfl⟩ rfl dX5_read_11 ?_
  refine g_if_ne C 22 dX5_read_14 (by decide) (fun c5 => ?_) (fun c5 => ?_)
  · replace h := it_f c5 h
    refine g_iconst C 0 dX5_read_22 (by decide) ?_
    refine g_istore_n C dX5_read_23 rfl (by decide) [(2, .int 0), (0, .ref a0), (1, .ref a1)] rfl ?_
    refine g_lv [1, 2, 0] [(0, .ref a0), (1, .ref a1), (2, .int 0)] rfl ?_
    refine g_loop (lvf := fun v6 => [(0, .ref a0), (1, .ref a1), (2, .int v6.1)]) (wsf := fun v6 => [(a0, .inr (5, [.ref a0_bytes, .int (q5_length o0), .int v6.2.1, .int v6.2.2.1, .int v6.2.2.2.1])), (a0_bytes, .inl (zI Z, 300, .inl (q5_bytes o0))), (a1, .inr (2, [.ref a1_sets, .int (q2_points r3.2.2), .int v6.2.2.2.2.1])), (a1_sets, .inl (zI Z, 10, .inl v6.2.2.2.2.2))]) h (fun v6 y1 h hk1 hx1 => ?_)
    refine g_eq (lv1 := [(0, .ref a0), (1, .ref a1), (2, .int v6.1)]) (st1 := []) (ws1 := [(a0, .inr (5, [.ref a0_bytes, .int (q5_length o0), .int v6.2.1, .int v6.2.2.1, .int v6.2.2.2.1])), (a0_bytes, .inl (zI Z, 300, .inl (q5_bytes o0))), (a1, .inr (2, [.ref a1_sets, .int (q2_points r3.2.2), .int v6.2.2.2.2.1])), (a1_sets, .inl (zI Z, 10, .inl v6.2.2.2.2.2))]) rfl rfl rfl rfl ?_
    unfold fX5_read_L24 at h
    refine g_iload_n C dX5_read_24 rfl 2 rfl ?_
    refine g_sipush C 300 dX5_read_25 (by decide) ?_
    have hj62 : fX5_read_J62 o0 r3 v6 = some res → Gw p l e R s m args below meth c 3 Z A Q 0 0 62 [(0, .ref a0)] [] [(a0, .inr (5, [.ref a0_bytes, .int (q5_length o0), .int v6.2.1, .int v6.2.2.1, .int v6.2.2.2.1])), (a0_bytes, .inl (zI Z, 300, .inl (q5_bytes o0))), (a1, .inr (2, [.ref a1_sets, .int (q2_points r3.2.2), .int v6.2.2.2.2.1])), (a1_sets, .inl (zI Z, 10, .inl v6.2.2.2.2.2))] := by
      intro h
      unfold fX5_read_J62 at h
      refine g_aload_n C dX5_read_62 rfl 0 rfl ?_
      refine g_get C 5 19 gin5 0 rfl rfl 2 (by decide) mw_1_41 rfl rfl dX5_read_63 ?_
      refine g_if_ne C 73 dX5_read_66 (by decide) (fun c7 => ?_) (fun c7 => ?_)
      · replace h := it_f c7 h
        refine g_aload_n C dX5_read_73 rfl 0 rfl ?_
        refine g_get C 5 22 gin5 0 rfl rfl 3 (by decide) mw_1_42 rfl rfl dX5_read_74 ?_
        obtain rfl := Option.some.inj h
        subst hQ
        exact gx_iret C D rfl rfl hr (Nat.le_of_ble_eq_true rfl) (Nat.le_of_ble_eq_true rfl) dX5_read_77 [0, 1, 2, 3] rfl (by decide)
      · replace h := it_t c7 h
        refine g_iconst C (-1) dX5_read_69 (by decide) ?_
        refine g_goto C 77 dX5_read_70 (by decide) ?_
        obtain rfl := Option.some.inj h
        subst hQ
        exact gx_iret C D rfl rfl hr (Nat.le_of_ble_eq_true rfl) (Nat.le_of_ble_eq_true rfl) dX5_read_77 [0, 1, 2, 3] rfl (by decide)
    refine g_icmp_ge C 62 dX5_read_28 (by decide) (fun c8 => ?_) (fun c8 => ?_)
    · replace h := it_t c8 h
      obtain ⟨r9, h, hy⟩ := ex_of h
      rw [hx1 r9 hy] at h
      refine g_lv [0] [(0, .ref a0)] rfl ?_
      exact hj62 h
    · replace h := it_f c8 h
      refine g_aload_n C dX5_read_31 rfl 0 rfl ?_
      refine g_get C 5 19 gin5 0 rfl rfl 2 (by decide) mw_1_41 rfl rfl dX5_read_32 ?_
      refine g_iconst C 3 dX5_read_35 (by decide) ?_
      refine g_icmp_ne C 62 dX5_read_36 (by decide) (fun c10 => ?_) (fun c10 => ?_)
      · replace h := it_f c10 h
        obtain ⟨r11, h, hy⟩ := ex_of h
        rw [hx1 r11 hy] at h
        refine g_lv [0] [(0, .ref a0)] rfl ?_
        exact hj62 h
      · replace h := it_t c10 h
        refine g_aload_n C dX5_read_39 rfl 0 rfl ?_
        obtain ⟨r12, hr13, h⟩ := bd_of h
        refine g_callVv C (kX5_advance l Z a0 a0_bytes (s5_end (s5_start (s5_kind o0 v6.2.1) v6.2.2.1) v6.2.2.2.1) r12 hr13) 0 rfl (ci := 5) rfl rfl myX5_advance 28 mw_2_15 rfl [0, 1] [2, 3] [2, 3, 0, 1] (wr := [(a1, .inr (2, [.ref a1_sets, .int (q2_points r3.2.2), .int v6.2.2.2.2.1])), (a1_sets, .inl (zI Z, 10, .inl v6.2.2.2.2.2))]) rfl rfl (by decide) (by decide) (by decide) [(a0, .inr (5, [.ref a0_bytes, .int (q5_length o0), .int (q5_kind r12), .int (q5_start r12), .int (q5_end r12)])), (a0_bytes, .inl (zI Z, 300, .inl (q5_bytes o0))), (a1, .inr (2, [.ref a1_sets, .int (q2_points r3.2.2), .int v6.2.2.2.2.1])), (a1_sets, .inl (zI Z, 10, .inl v6.2.2.2.2.2))] rfl (by decide) (Nat.le_of_ble_eq_true rfl) (by rw [hR]; exact Nat.le_of_ble_eq_true rfl) (by rw [hR]; exact Nat.le_of_ble_eq_true rfl) ⟨by rw [hR]; exact Nat.le_of_ble_eq_true rfl, by rw [hR]; exact Nat.le_of_ble_eq_true rfl⟩ rfl dX5_read_40 ?_
        refine g_aload_n C dX5_read_43 rfl 0 rfl ?_
        refine g_aload_n C dX5_read_44 rfl 1 rfl ?_
        obtain ⟨r14, hr15, h⟩ := bd_of h
        refine gx_callVi C D (kX5_readFacet l hst Z Y a0 a0_bytes a1 a1_sets (s5_end (s5_start (s5_kind o0 (q5_kind r12)) (q5_start r12)) (q5_end r12)) (s2_facets (s2_sets r3.2.2 v6.2.2.2.2.2) v6.2.2.2.2.1) r14 hr15) (g_recv C 0 rfl (ci := 5) rfl rfl) myX5_readFacet 35 mw_2_119 rfl [0, 1, 2, 3] [] [0, 1, 2, 3] (wr := []) rfl rfl (by decide) (by decide) (by decide) [(a0, .inr (5, [.ref a0_bytes, .int (q5_length o0), .int (q5_kind r14.2.1), .int (q5_start r14.2.1), .int (q5_end r14.2.1)])), (a0_bytes, .inl (zI Z, 300, .inl (q5_bytes o0))), (a1, .inr (2, [.ref a1_sets, .int (q2_points r3.2.2), .int (q2_facets r14.2.2)])), (a1_sets, .inl (zI Z, 10, .inl (q2_sets r14.2.2)))] rfl (by decide) (Nat.le_of_ble_eq_true rfl) (by rw [hR]; exact Nat.le_of_ble_eq_true rfl) (by rw [hR]; exact Nat.le_of_ble_eq_true rfl) ⟨by rw [hR]; exact Nat.le_of_ble_eq_true rfl, by rw [hR]; exact Nat.le_of_ble_eq_true rfl⟩ rfl dX5_read_45 ?_
        refine g_if_ne C 56 dX5_read_48 (by decide) (fun c16 => ?_) (fun c16 => ?_)
        · replace h := it_f c16 h
          refine g_iinc C (v6.1 + 1) dX5_read_56 2 rfl rfl (by decide) [(2, .int (v6.1 + 1)), (0, .ref a0), (1, .ref a1)] rfl ?_
          refine g_goto C 24 dX5_read_59 (by decide) ?_
          refine g_lv [1, 2, 0] [(0, .ref a0), (1, .ref a1), (2, .int (v6.1 + 1))] rfl ?_
          exact hk1 ((v6.1 + 1), (q5_kind r14.2.1), (q5_start r14.2.1), (q5_end r14.2.1), (q2_facets r14.2.2), (q2_sets r14.2.2)) (Option.some.inj h).symm
        · replace h := it_t c16 h
          obtain ⟨r17, h, hy⟩ := ex_of h
          rw [hx1 r17 hy] at h
          refine g_aload_n C dX5_read_51 rfl 0 rfl ?_
          refine g_get C 5 22 gin5 0 rfl rfl 3 (by decide) mw_1_42 rfl rfl dX5_read_52 ?_
          obtain rfl := Option.some.inj h
          subst hQ
          exact gx_iret C D rfl rfl hr (Nat.le_of_ble_eq_true rfl) (Nat.le_of_ble_eq_true rfl) dX5_read_55 [0, 1, 2, 3] rfl (by decide)
  · replace h := it_t c5 h
    refine g_aload_n C dX5_read_17 rfl 0 rfl ?_
    refine g_get C 5 22 gin5 0 rfl rfl 3 (by decide) mw_1_42 rfl rfl dX5_read_18 ?_
    obtain rfl := Option.some.inj h
    subst hQ
    exact gx_iret C D rfl rfl hr (Nat.le_of_ble_eq_true rfl) (Nat.le_of_ble_eq_true rfl) dX5_read_21 [0, 1, 2, 3] rfl (by decide)

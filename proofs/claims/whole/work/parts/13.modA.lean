def fX7_thrown (o0 : OX7) : Option (Int32) :=
  some (q7_thrown o0)
theorem myX7_thrown : MYv yX7_thrown cX7_thrown 1 (some .int) 0 := ⟨mw_5_171, mw_5_172, mw_5_173, mw_1_9, ⟨by decide +kernel, by decide +kernel⟩, by decide +kernel⟩
set_option maxRecDepth 100000 in
set_option maxHeartbeats 4000000 in
theorem kX7_thrown (l : Launch) (Z : GZ) (a0 a0_buffer a0_now a0_made a0_history a0_saved a0_closed a0_faces a0_rankOf a0_placeOf a0_counted a0_steps a0_onto a0_goes a0_firstImage : Nat) (o0 : OX7) (res : Int32) (h : fX7_thrown o0 = some res) : MI l Z yX7_thrown cX7_thrown 1 .int 0 0 [.ref a0] [(a0, .inr (7, [.int (q7_thrown o0), .ref a0_buffer, .int (q7_length o0), .int (q7_at o0), .int (q7_from o0), .int (q7_kind o0), .int (q7_number o0), .int (q7_wrong o0), .ref a0_now, .ref a0_made, .ref a0_history, .ref a0_saved, .int (q7_entries o0), .int (q7_isSaved o0), .ref a0_closed, .ref a0_faces, .ref a0_rankOf, .ref a0_placeOf, .int (q7_faceMany o0), .int (q7_isLaid o0), .ref a0_counted, .ref a0_steps, .ref a0_onto, .ref a0_goes, .int (q7_found o0), .int (q7_images o0), .ref a0_firstImage, .int (q7_gathered o0)]))] res [(a0, .inr (7, [.int (q7_thrown o0), .ref a0_buffer, .int (q7_length o0), .int (q7_at o0), .int (q7_from o0), .int (q7_kind o0), .int (q7_number o0), .int (q7_wrong o0), .ref a0_now, .ref a0_made, .ref a0_history, .ref a0_saved, .int (q7_entries o0), .int (q7_isSaved o0), .ref a0_closed, .ref a0_faces, .ref a0_rankOf, .ref a0_placeOf, .int (q7_faceMany o0), .int (q7_isLaid o0), .ref a0_counted, .ref a0_steps, .ref a0_onto, .ref a0_goes, .int (q7_found o0), .int (q7_images o0), .ref a0_firstImage, .int (q7_gathered o0)]))] := by
  refine MI_of (by decide +kernel) (Nat.le_of_ble_eq_true rfl) (fun {p e s m args below meth c} A R hR Q hQ C hr hlk => ?_)
  unfold fX7_thrown at h
  refine g_lv [0] [(0, .ref a0)] rfl ?_
  refine g_aload_n C dX7_thrown_0 rfl 0 rfl ?_
  refine g_get C 7 52 gin7 0 rfl rfl 0 (by decide) mw_5_85 rfl rfl dX7_thrown_1 ?_
  obtain rfl := Option.some.inj h
  subst hQ
  exact g_iret C rfl hr hlk dX7_thrown_4 [0] rfl (by decide)
def fX7_in (p0 : Int32) (p1 : Int32) (p2 : Int32) : Option (Int32) :=
  if p0 < p1 then (some 0)
  else (if p2 < p0 then (some 0)
  else (some 1))
theorem myX7_in : MYs yX7_in cX7_in 3 (some .boolean) 3 := ⟨mw_5_190, mw_5_191, mw_1_9, ⟨by decide +kernel, by decide +kernel⟩, by decide +kernel⟩
set_option maxRecDepth 100000 in
set_option maxHeartbeats 4000000 in
theorem kX7_in (l : Launch) (Z : GZ) (p0 : Int32) (p1 : Int32) (p2 : Int32) (res : Int32) (h : fX7_in p0 p1 p2 = some res) : MI l Z yX7_in cX7_in 3 .boolean 0 0 [.int p0, .int p1, .int p2] [] res [] := by
  refine MI_of (by decide +kernel) (Nat.le_of_ble_eq_true rfl) (fun {p e s m args below meth c} A R hR Q hQ C hr hlk => ?_)
  unfold fX7_in at h
  refine g_lv [0, 1, 2] [(0, .int p0), (1, .int p1), (2, .int p2)] rfl ?_
  refine g_iload_n C dX7_in_0 rfl 0 rfl ?_
  refine g_iload_n C dX7_in_1 rfl 1 rfl ?_
  refine g_icmp_lt C 14 dX7_in_2 (by decide) (fun c1 => ?_) (fun c1 => ?_)
  · replace h := it_t c1 h
    refine g_iconst C 0 dX7_in_14 (by decide) ?_
    obtain rfl := Option.some.inj h
    subst hQ
    exact g_zret C rfl (Or.inl rfl) hr hlk dX7_in_15 [] rfl (by decide)
  · replace h := it_f c1 h
    refine g_iload_n C dX7_in_5 rfl 0 rfl ?_
    refine g_iload_n C dX7_in_6 rfl 2 rfl ?_
    refine g_icmp_gt C 14 dX7_in_7 (by decide) (fun c2 => ?_) (fun c2 => ?_)
    · replace h := it_t c2 h
      refine g_iconst C 0 dX7_in_14 (by decide) ?_
      obtain rfl := Option.some.inj h
      subst hQ
      exact g_zret C rfl (Or.inl rfl) hr hlk dX7_in_15 [] rfl (by decide)
    · replace h := it_f c2 h
      refine g_iconst C 1 dX7_in_10 (by decide) ?_
      refine g_goto C 15 dX7_in_11 (by decide) ?_
      obtain rfl := Option.some.inj h
      subst hQ
      exact g_zret C rfl (Or.inr rfl) hr hlk dX7_in_15 [] rfl (by decide)
def fX7_has (p0 : Int32) (p1 : Int32) : Option (Int32) :=
  if ((jshr p0 p1) &&& 1) = 1 then (some 1)
  else (some 0)
theorem myX7_has : MYs yX7_has cX7_has 2 (some .boolean) 2 := ⟨mw_6_46, mw_6_47, mw_1_9, ⟨by decide +kernel, by decide +kernel⟩, by decide +kernel⟩
set_option maxRecDepth 100000 in
set_option maxHeartbeats 4000000 in
theorem kX7_has (l : Launch) (Z : GZ) (p0 : Int32) (p1 : Int32) (res : Int32) (h : fX7_has p0 p1 = some res) : MI l Z yX7_has cX7_has 2 .boolean 0 0 [.int p0, .int p1] [] res [] := by
  refine MI_of (by decide +kernel) (Nat.le_of_ble_eq_true rfl) (fun {p e s m args below meth c} A R hR Q hQ C hr hlk => ?_)
  unfold fX7_has at h
  refine g_lv [0, 1] [(0, .int p0), (1, .int p1)] rfl ?_
  refine g_iload_n C dX7_has_0 rfl 0 rfl ?_
  refine g_iload_n C dX7_has_1 rfl 1 rfl ?_
  refine g_ishr C dX7_has_2 ?_
  refine g_iconst C 1 dX7_has_3 (by decide) ?_
  refine g_iand C dX7_has_4 ?_
  refine g_iconst C 1 dX7_has_5 (by decide) ?_
  refine g_icmp_ne C 13 dX7_has_6 (by decide) (fun c1 => ?_) (fun c1 => ?_)
  · replace h := it_f c1 h
    refine g_iconst C 0 dX7_has_13 (by decide) ?_
    obtain rfl := Option.some.inj h
    subst hQ
    exact g_zret C rfl (Or.inl rfl) hr hlk dX7_has_14 [] rfl (by decide)
  · replace h := it_t c1 h
    refine g_iconst C 1 dX7_has_9 (by decide) ?_
    refine g_goto C 14 dX7_has_10 (by decide) ?_
    obtain rfl := Option.some.inj h
    subst hQ
    exact g_zret C rfl (Or.inr rfl) hr hlk dX7_has_14 [] rfl (by decide)
def fX7_holds (p0 : Int32) (p1 : Int32) : Option (Int32) :=
  if (p1 &&& (p0 ^^^ (-1))) = 0 then (some 1)
  else (some 0)
theorem myX7_holds : MYs yX7_holds cX7_holds 2 (some .boolean) 2 := ⟨mw_6_129, mw_6_130, mw_1_9, ⟨by decide +kernel, by decide +kernel⟩, by decide +kernel⟩
set_option maxRecDepth 100000 in
set_option maxHeartbeats 4000000 in
theorem kX7_holds (l : Launch) (Z : GZ) (p0 : Int32) (p1 : Int32) (res : Int32) (h : fX7_holds p0 p1 = some res) : MI l Z yX7_holds cX7_holds 2 .boolean 0 0 [.int p0, .int p1] [] res [] := by
  refine MI_of (by decide +kernel) (Nat.le_of_ble_eq_true rfl) (fun {p e s m args below meth c} A R hR Q hQ C hr hlk => ?_)
  unfold fX7_holds at h
  refine g_lv [0, 1] [(0, .int p0), (1, .int p1)] rfl ?_
  refine g_iload_n C dX7_holds_0 rfl 1 rfl ?_
  refine g_iload_n C dX7_holds_1 rfl 0 rfl ?_
  refine g_iconst C (-1) dX7_holds_2 (by decide) ?_
  refine g_ixor C dX7_holds_3 ?_
  refine g_iand C dX7_holds_4 ?_
  refine g_if_ne C 12 dX7_holds_5 (by decide) (fun c1 => ?_) (fun c1 => ?_)
  · replace h := it_f c1 h
    refine g_iconst C 0 dX7_holds_12 (by decide) ?_
    obtain rfl := Option.some.inj h
    subst hQ
    exact g_zret C rfl (Or.inl rfl) hr hlk dX7_holds_13 [] rfl (by decide)
  · replace h := it_t c1 h
    refine g_iconst C 1 dX7_holds_8 (by decide) ?_
    refine g_goto C 13 dX7_holds_9 (by decide) ?_
    obtain rfl := Option.some.inj h
    subst hQ
    exact g_zret C rfl (Or.inr rfl) hr hlk dX7_holds_13 [] rfl (by decide)
def fX7_bits_L4 (p0 : Int32) (v1 : Int32 × Int32) : Option ((Int32 × Int32) ⊕ (Int32)) :=
  if 16 ≤ v1.2 then (ex (some v1.1))
  else (some (.inl ((v1.1 + ((jshr p0 v1.2) &&& 1)), (v1.2 + 1))))
def fX7_bits (p0 : Int32) : Option (Int32) :=
  lp (fX7_bits_L4 p0) lpN (0, 0)
theorem myX7_bits : MYs yX7_bits cX7_bits 3 (some .int) 1 := ⟨mw_6_165, mw_6_166, mw_1_9, ⟨by decide +kernel, by decide +kernel⟩, by decide +kernel⟩
set_option maxRecDepth 100000 in
set_option maxHeartbeats 4000000 in
theorem kX7_bits (l : Launch) (Z : GZ) (p0 : Int32) (res : Int32) (h : fX7_bits p0 = some res) : MI l Z yX7_bits cX7_bits 3 .int 0 0 [.int p0] [] res [] := by
  refine MI_of (by decide +kernel) (Nat.le_of_ble_eq_true rfl) (fun {p e s m args below meth c} A R hR Q hQ C hr hlk => ?_)
  unfold fX7_bits at h
  refine g_lv [0] [(0, .int p0)] rfl ?_
  refine g_iconst C 0 dX7_bits_0 (by decide) ?_
  refine g_istore_n C dX7_bits_1 rfl (by decide) [(1, .int 0), (0, .int p0)] rfl ?_
  refine g_iconst C 0 dX7_bits_2 (by decide) ?_
  refine g_istore_n C dX7_bits_3 rfl (by decide) [(2, .int 0), (1, .int 0), (0, .int p0)] rfl ?_
  refine g_lv [2, 1, 0] [(0, .int p0), (1, .int 0), (2, .int 0)] rfl ?_
  refine g_loop (lvf := fun v1 => [(0, .int p0), (1, .int v1.1), (2, .int v1.2)]) (wsf := fun v1 => []) h (fun v1 y1 h hk1 hx1 => ?_)
  refine g_eq (lv1 := [(0, .int p0), (1, .int v1.1), (2, .int v1.2)]) (st1 := []) (ws1 := []) rfl rfl rfl rfl ?_
  unfold fX7_bits_L4 at h
  refine g_iload_n C dX7_bits_4 rfl 2 rfl ?_
  refine g_bipush C 16 dX7_bits_5 (by decide) ?_
  refine g_icmp_ge C 24 dX7_bits_7 (by decide) (fun c2 => ?_) (fun c2 => ?_)
  · replace h := it_t c2 h
    obtain ⟨r3, h, hy⟩ := ex_of h
    rw [hx1 r3 hy] at h
    refine g_iload_n C dX7_bits_24 rfl 1 rfl ?_
    obtain rfl := Option.some.inj h
    subst hQ
    exact g_iret C rfl hr hlk dX7_bits_25 [] rfl (by decide)
  · replace h := it_f c2 h
    refine g_iload_n C dX7_bits_10 rfl 1 rfl ?_
    refine g_iload_n C dX7_bits_11 rfl 0 rfl ?_
    refine g_iload_n C dX7_bits_12 rfl 2 rfl ?_
    refine g_ishr C dX7_bits_13 ?_
    refine g_iconst C 1 dX7_bits_14 (by decide) ?_
    refine g_iand C dX7_bits_15 ?_
    refine g_iadd C dX7_bits_16 ?_
    refine g_istore_n C dX7_bits_17 rfl (by decide) [(1, .int (v1.1 + ((jshr p0 v1.2) &&& 1))), (0, .int p0), (2, .int v1.2)] rfl ?_
    refine g_iinc C (v1.2 + 1) dX7_bits_18 2 rfl rfl (by decide) [(2, .int (v1.2 + 1)), (1, .int (v1.1 + ((jshr p0 v1.2) &&& 1))), (0, .int p0)] rfl ?_
    refine g_goto C 4 dX7_bits_21 (by decide) ?_
    refine g_lv [2, 1, 0] [(0, .int p0), (1, .int (v1.1 + ((jshr p0 v1.2) &&& 1))), (2, .int (v1.2 + 1))] rfl ?_
    exact hk1 ((v1.1 + ((jshr p0 v1.2) &&& 1)), (v1.2 + 1)) (Option.some.inj h).symm
def fX7_fails (o0 : OX7) (p1 : Int32) (p2 : Int32) : Option (Int32 × OX7) :=
  if p1 = 0 then (if p1 = 0 then (some (1, (s7_thrown o0 p2)))
  else (some (0, (s7_thrown o0 p2))))
  else (if p1 = 0 then (some (1, o0))
  else (some (0, o0)))
theorem myX7_fails : MYv yX7_fails cX7_fails 3 (some .boolean) 2 := ⟨mw_5_183, ms_33, mw_5_184, mw_1_9, ⟨by decide +kernel, by decide +kernel⟩, by decide +kernel⟩
set_option maxRecDepth 100000 in
set_option maxHeartbeats 4000000 in
theorem kX7_fails (l : Launch) (Z : GZ) (a0 a0_buffer a0_now a0_made a0_history a0_saved a0_closed a0_faces a0_rankOf a0_placeOf a0_counted a0_steps a0_onto a0_goes a0_firstImage : Nat) (o0 : OX7) (p1 : Int32) (p2 : Int32) (res : Int32 × OX7) (h : fX7_fails o0 p1 p2 = some res) : MI l Z yX7_fails cX7_fails 3 .boolean 0 0 [.ref a0, .int p1, .int p2] [(a0, .inr (7, [.int (q7_thrown o0), .ref a0_buffer, .int (q7_length o0), .int (q7_at o0), .int (q7_from o0), .int (q7_kind o0), .int (q7_number o0), .int (q7_wrong o0), .ref a0_now, .ref a0_made, .ref a0_history, .ref a0_saved, .int (q7_entries o0), .int (q7_isSaved o0), .ref a0_closed, .ref a0_faces, .ref a0_rankOf, .ref a0_placeOf, .int (q7_faceMany o0), .int (q7_isLaid o0), .ref a0_counted, .ref a0_steps, .ref a0_onto, .ref a0_goes, .int (q7_found o0), .int (q7_images o0), .ref a0_firstImage, .int (q7_gathered o0)]))] res.1 [(a0, .inr (7, [.int (q7_thrown res.2), .ref a0_buffer, .int (q7_length o0), .int (q7_at o0), .int (q7_from o0), .int (q7_kind o0), .int (q7_number o0), .int (q7_wrong o0), .ref a0_now, .ref a0_made, .ref a0_history, .ref a0_saved, .int (q7_entries o0), .int (q7_isSaved o0), .ref a0_closed, .ref a0_faces, .ref a0_rankOf, .ref a0_placeOf, .int (q7_faceMany o0), .int (q7_isLaid o0), .ref a0_counted, .ref a0_steps, .ref a0_onto, .ref a0_goes, .int (q7_found o0), .int (q7_images o0), .ref a0_firstImage, .int (q7_gathered o0)]))] := by
  refine MI_of (by decide +kernel) (Nat.le_of_ble_eq_true rfl) (fun {p e s m args below meth c} A R hR Q hQ C hr hlk => ?_)
  unfold fX7_fails at h
  refine g_lv [0, 1, 2] [(0, .ref a0), (1, .int p1), (2, .int p2)] rfl ?_
  refine g_iload_n C dX7_fails_0 rfl 1 rfl ?_
  refine g_if_ne C 9 dX7_fails_1 (by decide) (fun c1 => ?_) (fun c1 => ?_)
  · replace h := it_f c1 h
    refine g_iload_n C dX7_fails_9 rfl 1 rfl ?_
    refine g_if_ne C 17 dX7_fails_10 (by decide) (fun c2 => ?_) (fun c2 => ?_)
    · replace h := it_f c2 h
      refine g_iconst C 0 dX7_fails_17 (by decide) ?_
      obtain rfl := Option.some.inj h
      subst hQ
      exact g_zret C rfl (Or.inl rfl) hr hlk dX7_fails_18 [0] rfl (by decide)
    · replace h := it_t c2 h
      refine g_iconst C 1 dX7_fails_13 (by decide) ?_
      refine g_goto C 18 dX7_fails_14 (by decide) ?_
      obtain rfl := Option.some.inj h
      subst hQ
      exact g_zret C rfl (Or.inr rfl) hr hlk dX7_fails_18 [0] rfl (by decide)
  · replace h := it_t c1 h
    refine g_aload_n C dX7_fails_4 rfl 0 rfl ?_
    refine g_iload_n C dX7_fails_5 rfl 2 rfl ?_
    refine g_put C 7 52 gin7 tyX7 tyX7_ok nmX7 0 rfl rfl 0 (by decide) mw_5_85 rfl rfl (ty := .int) (by decide +kernel) rfl rfl (Nat.le_of_ble_eq_true rfl) [(a0, .inr (7, [.int p2, .ref a0_buffer, .int (q7_length o0), .int (q7_at o0), .int (q7_from o0), .int (q7_kind o0), .int (q7_number o0), .int (q7_wrong o0), .ref a0_now, .ref a0_made, .ref a0_history, .ref a0_saved, .int (q7_entries o0), .int (q7_isSaved o0), .ref a0_closed, .ref a0_faces, .ref a0_rankOf, .ref a0_placeOf, .int (q7_faceMany o0), .int (q7_isLaid o0), .ref a0_counted, .ref a0_steps, .ref a0_onto, .ref a0_goes, .int (q7_found o0), .int (q7_images o0), .ref a0_firstImage, .int (q7_gathered o0)]))] rfl dX7_fails_6 ?_
    refine g_iload_n C dX7_fails_9 rfl 1 rfl ?_
    refine g_if_ne C 17 dX7_fails_10 (by decide) (fun c3 => ?_) (fun c3 => ?_)
    · replace h := it_f c3 h
      refine g_iconst C 0 dX7_fails_17 (by decide) ?_
      obtain rfl := Option.some.inj h
      subst hQ
      exact g_zret C rfl (Or.inl rfl) hr hlk dX7_fails_18 [0] rfl (by decide)
    · replace h := it_t c3 h
      refine g_iconst C 1 dX7_fails_13 (by decide) ?_
      refine g_goto C 18 dX7_fails_14 (by decide) ?_
      obtain rfl := Option.some.inj h
      subst hQ
      exact g_zret C rfl (Or.inr rfl) hr hlk dX7_fails_18 [0] rfl (by decide)
def fX7_byteOf_J45 (p5 : Int32) (x1 : Int32) : Option (Int32) :=
  some ((jshr x1 (24 - (8 * (jrem p5 4)))) &&& 255)
def fX7_byteOf (p0 : Int32) (p1 : Int32) (p2 : Int32) (p3 : Int32) (p4 : Int32) (p5 : Int32) : Option (Int32) :=
  if 4 ≤ p5 then (if 8 ≤ p5 then (if 12 ≤ p5 then (if 16 ≤ p5 then (fX7_byteOf_J45 p5 p4)
  else (fX7_byteOf_J45 p5 p3))
  else (fX7_byteOf_J45 p5 p2))
  else (fX7_byteOf_J45 p5 p1))
  else (fX7_byteOf_J45 p5 p0)
theorem myX7_byteOf : MYs yX7_byteOf cX7_byteOf 7 (some .int) 6 := ⟨mw_5_179, mw_5_180, mw_1_9, ⟨by decide +kernel, by decide +kernel⟩, by decide +kernel⟩
set_option maxRecDepth 100000 in
set_option maxHeartbeats 4000000 in
theorem kX7_byteOf (l : Launch) (Z : GZ) (p0 : Int32) (p1 : Int32) (p2 : Int32) (p3 : Int32) (p4 : Int32) (p5 : Int32) (res : Int32) (h : fX7_byteOf p0 p1 p2 p3 p4 p5 = some res) : MI l Z yX7_byteOf cX7_byteOf 7 .int 0 0 [.int p0, .int p1, .int p2, .int p3, .int p4, .int p5] [] res [] := by
  refine MI_of (by decide +kernel) (Nat.le_of_ble_eq_true rfl) (fun {p e s m args below meth c} A R hR Q hQ C hr hlk => ?_)
  unfold fX7_byteOf at h
  refine g_lv [0, 1, 2, 3, 4, 5] [(0, .int p0), (1, .int p1), (2, .int p2), (3, .int p3), (4, .int p4), (5, .int p5)] rfl ?_
  refine g_iload C dX7_byteOf_0 5 rfl ?_
  refine g_iconst C 4 dX7_byteOf_2 (by decide) ?_
  have hj45 : ∀ (x1 : Int32), fX7_byteOf_J45 p5 x1 = some res → Gw p l e R s m args below meth c 7 Z A Q 0 0 45 [(5, .int p5)] [.int x1] [] := by
    intro x1 h
    unfold fX7_byteOf_J45 at h
    refine g_istore C dX7_byteOf_45 (by decide) [(6, .int x1), (5, .int p5)] rfl ?_
    refine g_iload C dX7_byteOf_47 0 rfl ?_
    refine g_bipush C 24 dX7_byteOf_49 (by decide) ?_
    refine g_bipush C 8 dX7_byteOf_51 (by decide) ?_
    refine g_iload C dX7_byteOf_53 1 rfl ?_
    refine g_iconst C 4 dX7_byteOf_55 (by decide) ?_
    refine g_irem C dX7_byteOf_56 (by decide) ?_
    refine g_imul C dX7_byteOf_57 ?_
    refine g_isub C dX7_byteOf_58 ?_
    refine g_ishr C dX7_byteOf_59 ?_
    refine g_sipush C 255 dX7_byteOf_60 (by decide) ?_
    refine g_iand C dX7_byteOf_63 ?_
    obtain rfl := Option.some.inj h
    subst hQ
    exact g_iret C rfl hr hlk dX7_byteOf_64 [] rfl (by decide)
  refine g_icmp_ge C 10 dX7_byteOf_3 (by decide) (fun c2 => ?_) (fun c2 => ?_)
  · replace h := it_t c2 h
    refine g_iload C dX7_byteOf_10 5 rfl ?_
    refine g_bipush C 8 dX7_byteOf_12 (by decide) ?_
    refine g_icmp_ge C 21 dX7_byteOf_14 (by decide) (fun c3 => ?_) (fun c3 => ?_)
    · replace h := it_t c3 h
      refine g_iload C dX7_byteOf_21 5 rfl ?_
      refine g_bipush C 12 dX7_byteOf_23 (by decide) ?_
      refine g_icmp_ge C 32 dX7_byteOf_25 (by decide) (fun c4 => ?_) (fun c4 => ?_)
      · replace h := it_t c4 h
        refine g_iload C dX7_byteOf_32 5 rfl ?_
        refine g_bipush C 16 dX7_byteOf_34 (by decide) ?_
        refine g_icmp_ge C 43 dX7_byteOf_36 (by decide) (fun c5 => ?_) (fun c5 => ?_)
        · replace h := it_t c5 h
          refine g_iload C dX7_byteOf_43 4 rfl ?_
          refine g_lv [5] [(5, .int p5)] rfl ?_
          exact hj45 p4 h
        · replace h := it_f c5 h
          refine g_iload_n C dX7_byteOf_39 rfl 3 rfl ?_
          refine g_goto C 45 dX7_byteOf_40 (by decide) ?_
          refine g_lv [5] [(5, .int p5)] rfl ?_
          exact hj45 p3 h
      · replace h := it_f c4 h
        refine g_iload_n C dX7_byteOf_28 rfl 2 rfl ?_
        refine g_goto C 45 dX7_byteOf_29 (by decide) ?_
        refine g_lv [5] [(5, .int p5)] rfl ?_
        exact hj45 p2 h
    · replace h := it_f c3 h
      refine g_iload_n C dX7_byteOf_17 rfl 1 rfl ?_
      refine g_goto C 45 dX7_byteOf_18 (by decide) ?_
      refine g_lv [5] [(5, .int p5)] rfl ?_
      exact hj45 p1 h
  · replace h := it_f c2 h
    refine g_iload_n C dX7_byteOf_6 rfl 0 rfl ?_
    refine g_goto C 45 dX7_byteOf_7 (by decide) ?_
    refine g_lv [5] [(5, .int p5)] rfl ?_
    exact hj45 p0 h
def fX7_append_L80 (o0 : OX7) (p1 : Int32) (p2 : Int32) (p3 : Int32) (p4 : Int32) (p5 : Int32) (r5 : Int32 × OX7) (v8 : Int32 × Int32 × (Nat → Int32)) : Option ((Int32 × Int32 × (Nat → Int32)) ⊕ (Int32 × OX7)) :=
  if 20 ≤ v8.1 then (ex (some (v8.2.1, (s7_length (s7_buffer (s7_thrown o0 (q7_thrown r5.2)) v8.2.2) v8.2.1))))
  else ((fX7_byteOf p1 p2 p3 p4 p5 v8.1).bind fun r11 =>
  (if r11 = 0 then (some (.inl ((v8.1 + 1), v8.2.1, v8.2.2)))
  else (ck (okI v8.2.1 300) (some (.inl ((v8.1 + 1), (v8.2.1 + 1), (upd v8.2.2 (ix v8.2.1) r11)))))))
def fX7_append_J68 (o0 : OX7) (p1 : Int32) (p2 : Int32) (p3 : Int32) (p4 : Int32) (p5 : Int32) (x4 : Int32) : Option (Int32 × OX7) :=
  (fX7_fails (s7_thrown o0 0) x4 1).bind fun r5 =>
  (if r5.1 = 0 then (lp (fX7_append_L80 o0 p1 p2 p3 p4 p5 r5) lpN (0, (q7_length o0), (q7_buffer o0)))
  else (some (0, (s7_thrown o0 (q7_thrown r5.2)))))
def fX7_append_L11 (o0 : OX7) (p1 : Int32) (p2 : Int32) (p3 : Int32) (p4 : Int32) (p5 : Int32) (v1 : Int32 × Int32) : Option ((Int32 × Int32) ⊕ (Int32 × OX7)) :=
  if 20 ≤ v1.2 then (ex (if 300 < ((q7_length o0) + v1.1) then (fX7_append_J68 o0 p1 p2 p3 p4 p5 0)
  else (fX7_append_J68 o0 p1 p2 p3 p4 p5 1)))
  else ((fX7_byteOf p1 p2 p3 p4 p5 v1.2).bind fun r16 =>
  (if r16 = 0 then (some (.inl ((v1.1 + 0), (v1.2 + 1))))
  else (some (.inl ((v1.1 + 1), (v1.2 + 1))))))
def fX7_append (o0 : OX7) (p1 : Int32) (p2 : Int32) (p3 : Int32) (p4 : Int32) (p5 : Int32) : Option (Int32 × OX7) :=
  lp (fX7_append_L11 o0 p1 p2 p3 p4 p5) lpN (0, 0)
theorem myX7_append : MYv yX7_append cX7_append 9 (some .int) 5 := ⟨mw_5_175, mw_5_176, mw_5_177, mw_1_9, ⟨by decide +kernel, by decide +kernel⟩, by decide +kernel⟩
set_option maxRecDepth 100000 in
set_option maxHeartbeats 4000000 in
theorem kX7_append (l : Launch) (Z : GZ) (a0 a0_buffer a0_now a0_made a0_history a0_saved a0_closed a0_faces a0_rankOf a0_placeOf a0_counted a0_steps a0_onto a0_goes a0_firstImage : Nat) (o0 : OX7) (p1 : Int32) (p2 : Int32) (p3 : Int32) (p4 : Int32) (p5 : Int32) (res : Int32 × OX7) (h : fX7_append o0 p1 p2 p3 p4 p5 = some res) : MI l Z yX7_append cX7_append 9 .int 1 26 [.ref a0, .int p1, .int p2, .int p3, .int p4, .int p5] [(a0, .inr (7, [.int (q7_thrown o0), .ref a0_buffer, .int (q7_length o0), .int (q7_at o0), .int (q7_from o0), .int (q7_kind o0), .int (q7_number o0), .int (q7_wrong o0), .ref a0_now, .ref a0_made, .ref a0_history, .ref a0_saved, .int (q7_entries o0), .int (q7_isSaved o0), .ref a0_closed, .ref a0_faces, .ref a0_rankOf, .ref a0_placeOf, .int (q7_faceMany o0), .int (q7_isLaid o0), .ref a0_counted, .ref a0_steps, .ref a0_onto, .ref a0_goes, .int (q7_found o0), .int (q7_images o0), .ref a0_firstImage, .int (q7_gathered o0)])), (a0_buffer, .inl (zI Z, 300, .inl (q7_buffer o0)))] res.1 [(a0, .inr (7, [.int (q7_thrown res.2), .ref a0_buffer, .int (q7_length res.2), .int (q7_at o0), .int (q7_from o0), .int (q7_kind o0), .int (q7_number o0), .int (q7_wrong o0), .ref a0_now, .ref a0_made, .ref a0_history, .ref a0_saved, .int (q7_entries o0), .int (q7_isSaved o0), .ref a0_closed, .ref a0_faces, .ref a0_rankOf, .ref a0_placeOf, .int (q7_faceMany o0), .int (q7_isLaid o0), .ref a0_counted, .ref a0_steps, .ref a0_onto, .ref a0_goes, .int (q7_found o0), .int (q7_images o0), .ref a0_firstImage, .int (q7_gathered o0)])), (a0_buffer, .inl (zI Z, 300, .inl (q7_buffer res.2)))] := by
  refine MI_of (by decide +kernel) (Nat.le_of_ble_eq_true rfl) (fun {p e s m args below meth c} A R hR Q hQ C hr hlk => ?_)
  unfold fX7_append at h
  refine g_lv [0, 1, 2, 3, 4, 5] [(0, .ref a0), (1, .int p1), (2, .int p2), (3, .int p3), (4, .int p4), (5, .int p5)] rfl ?_
  refine g_aload_n C dX7_append_0 rfl 0 rfl ?_
  refine g_iconst C 0 dX7_append_1 (by decide) ?_
  refine g_put C 7 52 gin7 tyX7 tyX7_ok nmX7 0 rfl rfl 0 (by decide) mw_5_85 rfl rfl (ty := .int) (by decide +kernel) rfl rfl (Nat.le_of_ble_eq_true rfl) [(a0, .inr (7, [.int 0, .ref a0_buffer, .int (q7_length o0), .int (q7_at o0), .int (q7_from o0), .int (q7_kind o0), .int (q7_number o0), .int (q7_wrong o0), .ref a0_now, .ref a0_made, .ref a0_history, .ref a0_saved, .int (q7_entries o0), .int (q7_isSaved o0), .ref a0_closed, .ref a0_faces, .ref a0_rankOf, .ref a0_placeOf, .int (q7_faceMany o0), .int (q7_isLaid o0), .ref a0_counted, .ref a0_steps, .ref a0_onto, .ref a0_goes, .int (q7_found o0), .int (q7_images o0), .ref a0_firstImage, .int (q7_gathered o0)])), (a0_buffer, .inl (zI Z, 300, .inl (q7_buffer o0)))] rfl dX7_append_2 ?_
  refine g_iconst C 0 dX7_append_5 (by decide) ?_
  refine g_istore C dX7_append_6 (by decide) [(6, .int 0), (0, .ref a0), (1, .int p1), (2, .int p2), (3, .int p3), (4, .int p4), (5, .int p5)] rfl ?_
  refine g_iconst C 0 dX7_append_8 (by decide) ?_
  refine g_istore C dX7_append_9 (by decide) [(7, .int 0), (6, .int 0), (0, .ref a0), (1, .int p1), (2, .int p2), (3, .int p3), (4, .int p4), (5, .int p5)] rfl ?_
  refine g_lv [2, 3, 4, 5, 6, 7, 1, 0] [(0, .ref a0), (1, .int p1), (2, .int p2), (3, .int p3), (4, .int p4), (5, .int p5), (6, .int 0), (7, .int 0)] rfl ?_
  refine g_loop (lvf := fun v1 => [(0, .ref a0), (1, .int p1), (2, .int p2), (3, .int p3), (4, .int p4), (5, .int p5), (6, .int v1.1), (7, .int v1.2)]) (wsf := fun v1 => [(a0, .inr (7, [.int 0, .ref a0_buffer, .int (q7_length o0), .int (q7_at o0), .int (q7_from o0), .int (q7_kind o0), .int (q7_number o0), .int (q7_wrong o0), .ref a0_now, .ref a0_made, .ref a0_history, .ref a0_saved, .int (q7_entries o0), .int (q7_isSaved o0), .ref a0_closed, .ref a0_faces, .ref a0_rankOf, .ref a0_placeOf, .int (q7_faceMany o0), .int (q7_isLaid o0), .ref a0_counted, .ref a0_steps, .ref a0_onto, .ref a0_goes, .int (q7_found o0), .int (q7_images o0), .ref a0_firstImage, .int (q7_gathered o0)])), (a0_buffer, .inl (zI Z, 300, .inl (q7_buffer o0)))]) h (fun v1 y1 h hk1 hx1 => ?_)
  refine g_eq (lv1 := [(0, .ref a0), (1, .int p1), (2, .int p2), (3, .int p3), (4, .int p4), (5, .int p5), (6, .int v1.1), (7, .int v1.2)]) (st1 := []) (ws1 := [(a0, .inr (7, [.int 0, .ref a0_buffer, .int (q7_length o0), .int (q7_at o0), .int (q7_from o0), .int (q7_kind o0), .int (q7_number o0), .int (q7_wrong o0), .ref a0_now, .ref a0_made, .ref a0_history, .ref a0_saved, .int (q7_entries o0), .int (q7_isSaved o0), .ref a0_closed, .ref a0_faces, .ref a0_rankOf, .ref a0_placeOf, .int (q7_faceMany o0), .int (q7_isLaid o0), .ref a0_counted, .ref a0_steps, .ref a0_onto, .ref a0_goes, .int (q7_found o0), .int (q7_images o0), .ref a0_firstImage, .int (q7_gathered o0)])), (a0_buffer, .inl (zI Z, 300, .inl (q7_buffer o0)))]) rfl rfl rfl rfl ?_
  unfold fX7_append_L11 at h
  refine g_iload C dX7_append_11 7 rfl ?_
  refine g_bipush C 20 dX7_append_13 (by decide) ?_
  refine g_icmp_ge C 49 dX7_append_15 (by decide) (fun c2 => ?_) (fun c2 => ?_)
  · replace h := it_t c2 h
    obtain ⟨r3, h, hy⟩ := ex_of h
    rw [hx1 r3 hy] at h
    refine g_aload_n C dX7_append_49 rfl 0 rfl ?_
    refine g_aload_n C dX7_append_50 rfl 0 rfl ?_
    refine g_get C 7 60 gin7 0 rfl rfl 2 (by decide) mw_5_87 rfl rfl dX7_append_51 ?_
    refine g_iload C dX7_append_54 6 rfl ?_
    refine g_iadd C dX7_append_56 ?_
    refine g_sipush C 300 dX7_append_57 (by decide) ?_
    have hj68 : ∀ (x4 : Int32), fX7_append_J68 o0 p1 p2 p3 p4 p5 x4 = some res → Gw p l e R s m args below meth c 9 Z A Q 0 0 68 [(0, .ref a0), (1, .int p1), (2, .int p2), (3, .int p3), (4, .int p4), (5, .int p5)] [.int x4, .ref a0] [(a0, .inr (7, [.int 0, .ref a0_buffer, .int (q7_length o0), .int (q7_at o0), .int (q7_from o0), .int (q7_kind o0), .int (q7_number o0), .int (q7_wrong o0), .ref a0_now, .ref a0_made, .ref a0_history, .ref a0_saved, .int (q7_entries o0), .int (q7_isSaved o0), .ref a0_closed, .ref a0_faces, .ref a0_rankOf, .ref a0_placeOf, .int (q7_faceMany o0), .int (q7_isLaid o0), .ref a0_counted, .ref a0_steps, .ref a0_onto, .ref a0_goes, .int (q7_found o0), .int (q7_images o0), .ref a0_firstImage, .int (q7_gathered o0)])), (a0_buffer, .inl (zI Z, 300, .inl (q7_buffer o0)))] := by
      intro x4 h
      unfold fX7_append_J68 at h
      refine g_iconst C 1 dX7_append_68 (by decide) ?_
      obtain ⟨r5, hr6, h⟩ := bd_of h
      refine g_callVi C (kX7_fails l Z a0 a0_buffer a0_now a0_made a0_history a0_saved a0_closed a0_faces a0_rankOf a0_placeOf a0_counted a0_steps a0_onto a0_goes a0_firstImage (s7_thrown o0 0) x4 1 r5 hr6) 0 rfl (ci := 7) rfl rfl myX7_fails 63 mw_5_181 rfl [0] [1] [1, 0] (wr := [(a0_buffer, .inl (zI Z, 300, .inl (q7_buffer o0)))]) rfl rfl (by decide) (by decide) (by decide) [(a0, .inr (7, [.int (q7_thrown r5.2), .ref a0_buffer, .int (q7_length o0), .int (q7_at o0), .int (q7_from o0), .int (q7_kind o0), .int (q7_number o0), .int (q7_wrong o0), .ref a0_now, .ref a0_made, .ref a0_history, .ref a0_saved, .int (q7_entries o0), .int (q7_isSaved o0), .ref a0_closed, .ref a0_faces, .ref a0_rankOf, .ref a0_placeOf, .int (q7_faceMany o0), .int (q7_isLaid o0), .ref a0_counted, .ref a0_steps, .ref a0_onto, .ref a0_goes, .int (q7_found o0), .int (q7_images o0), .ref a0_firstImage, .int (q7_gathered o0)])), (a0_buffer, .inl (zI Z, 300, .inl (q7_buffer o0)))] rfl (by decide) (Nat.le_of_ble_eq_true rfl) (by rw [hR]; exact Nat.le_of_ble_eq_true rfl) (by rw [hR]; exact Nat.le_of_ble_eq_true rfl) ⟨by rw [hR]; exact Nat.le_of_ble_eq_true rfl, by rw [hR]; exact Nat.le_of_ble_eq_true rfl⟩ rfl dX7_append_69 ?_
      refine g_if_eq C 77 dX7_append_72 (by decide) (fun c7 => ?_) (fun c7 => ?_)
      · replace h := it_t c7 h
        refine g_iconst C 0 dX7_append_77 (by decide) ?_
        refine g_istore C dX7_append_78 (by decide) [(7, .int 0), (0, .ref a0), (1, .int p1), (2, .int p2), (3, .int p3), (4, .int p4), (5, .int p5)] rfl ?_
        refine g_lv [1, 2, 3, 4, 5, 6, 0] [(0, .ref a0), (1, .int p1), (2, .int p2), (3, .int p3), (4, .int p4), (5, .int p5), (7, .int 0)] rfl ?_
        refine g_loop (lvf := fun v8 => [(0, .ref a0), (1, .int p1), (2, .int p2), (3, .int p3), (4, .int p4), (5, .int p5), (7, .int v8.1)]) (wsf := fun v8 => [(a0, .inr (7, [.int (q7_thrown r5.2), .ref a0_buffer, .int v8.2.1, .int (q7_at o0), .int (q7_from o0), .int (q7_kind o0), .int (q7_number o0), .int (q7_wrong o0), .ref a0_now, .ref a0_made, .ref a0_history, .ref a0_saved, .int (q7_entries o0), .int (q7_isSaved o0), .ref a0_closed, .ref a0_faces, .ref a0_rankOf, .ref a0_placeOf, .int (q7_faceMany o0), .int (q7_isLaid o0), .ref a0_counted, .ref a0_steps, .ref a0_onto, .ref a0_goes, .int (q7_found o0), .int (q7_images o0), .ref a0_firstImage, .int (q7_gathered o0)])), (a0_buffer, .inl (zI Z, 300, .inl v8.2.2))]) h (fun v8 y1 h hk1 hx1 => ?_)
        refine g_eq (lv1 := [(0, .ref a0), (1, .int p1), (2, .int p2), (3, .int p3), (4, .int p4), (5, .int p5), (7, .int v8.1)]) (st1 := []) (ws1 := [(a0, .inr (7, [.int (q7_thrown r5.2), .ref a0_buffer, .int v8.2.1, .int (q7_at o0), .int (q7_from o0), .int (q7_kind o0), .int (q7_number o0), .int (q7_wrong o0), .ref a0_now, .ref a0_made, .ref a0_history, .ref a0_saved, .int (q7_entries o0), .int (q7_isSaved o0), .ref a0_closed, .ref a0_faces, .ref a0_rankOf, .ref a0_placeOf, .int (q7_faceMany o0), .int (q7_isLaid o0), .ref a0_counted, .ref a0_steps, .ref a0_onto, .ref a0_goes, .int (q7_found o0), .int (q7_images o0), .ref a0_firstImage, .int (q7_gathered o0)])), (a0_buffer, .inl (zI Z, 300, .inl v8.2.2))]) rfl rfl rfl rfl ?_
        unfold fX7_append_L80 at h
        refine g_iload C dX7_append_80 6 rfl ?_
        refine g_bipush C 20 dX7_append_82 (by decide) ?_
        refine g_icmp_ge C 133 dX7_append_84 (by decide) (fun c9 => ?_) (fun c9 => ?_)
        · replace h := it_t c9 h
          obtain ⟨r10, h, hy⟩ := ex_of h
          rw [hx1 r10 hy] at h
          refine g_aload_n C dX7_append_133 rfl 0 rfl ?_
          refine g_get C 7 60 gin7 0 rfl rfl 2 (by decide) mw_5_87 rfl rfl dX7_append_134 ?_
          obtain rfl := Option.some.inj h
          subst hQ
          exact g_iret C rfl hr hlk dX7_append_137 [0, 1] rfl (by decide)
        · replace h := it_f c9 h
          refine g_iload_n C dX7_append_87 rfl 1 rfl ?_
          refine g_iload_n C dX7_append_88 rfl 2 rfl ?_
          refine g_iload_n C dX7_append_89 rfl 3 rfl ?_
          refine g_iload C dX7_append_90 4 rfl ?_
          refine g_iload C dX7_append_92 5 rfl ?_
          refine g_iload C dX7_append_94 6 rfl ?_
          obtain ⟨r11, hr12, h⟩ := bd_of h
          refine g_callSi C (kX7_byteOf l Z p1 p2 p3 p4 p5 v8.1 r11 hr12) myX7_byteOf 56 mw_5_178 rfl [] [0, 1] [0, 1] (wr := [(a0, .inr (7, [.int (q7_thrown r5.2), .ref a0_buffer, .int v8.2.1, .int (q7_at o0), .int (q7_from o0), .int (q7_kind o0), .int (q7_number o0), .int (q7_wrong o0), .ref a0_now, .ref a0_made, .ref a0_history, .ref a0_saved, .int (q7_entries o0), .int (q7_isSaved o0), .ref a0_closed, .ref a0_faces, .ref a0_rankOf, .ref a0_placeOf, .int (q7_faceMany o0), .int (q7_isLaid o0), .ref a0_counted, .ref a0_steps, .ref a0_onto, .ref a0_goes, .int (q7_found o0), .int (q7_images o0), .ref a0_firstImage, .int (q7_gathered o0)])), (a0_buffer, .inl (zI Z, 300, .inl v8.2.2))]) rfl rfl (by decide) (by decide) (by decide) [(a0, .inr (7, [.int (q7_thrown r5.2), .ref a0_buffer, .int v8.2.1, .int (q7_at o0), .int (q7_from o0), .int (q7_kind o0), .int (q7_number o0), .int (q7_wrong o0), .ref a0_now, .ref a0_made, .ref a0_history, .ref a0_saved, .int (q7_entries o0), .int (q7_isSaved o0), .ref a0_closed, .ref a0_faces, .ref a0_rankOf, .ref a0_placeOf, .int (q7_faceMany o0), .int (q7_isLaid o0), .ref a0_counted, .ref a0_steps, .ref a0_onto, .ref a0_goes, .int (q7_found o0), .int (q7_images o0), .ref a0_firstImage, .int (q7_gathered o0)])), (a0_buffer, .inl (zI Z, 300, .inl v8.2.2))] rfl (by decide) (Nat.le_of_ble_eq_true rfl) (by rw [hR]; exact Nat.le_of_ble_eq_true rfl) (by rw [hR]; exact Nat.le_of_ble_eq_true rfl) ⟨by rw [hR]; exact Nat.le_of_ble_eq_true rfl, by rw [hR]; exact Nat.le_of_ble_eq_true rfl⟩ rfl dX7_append_96 ?_
          refine g_istore C dX7_append_99 (by decide) [(8, .int r11), (0, .ref a0), (1, .int p1), (2, .int p2), (3, .int p3), (4, .int p4), (5, .int p5), (7, .int v8.1)] rfl ?_
          refine g_iload C dX7_append_101 0 rfl ?_
          refine g_if_eq C 127 dX7_append_103 (by decide) (fun c13 => ?_) (fun c13 => ?_)
          · replace h := it_t c13 h
            refine g_iinc C (v8.1 + 1) dX7_append_127 7 rfl rfl (by decide) [(7, .int (v8.1 + 1)), (8, .int r11), (0, .ref a0), (1, .int p1), (2, .int p2), (3, .int p3), (4, .int p4), (5, .int p5)] rfl ?_
            refine g_goto C 80 dX7_append_130 (by decide) ?_
            refine g_lv [2, 3, 4, 5, 6, 7, 0] [(0, .ref a0), (1, .int p1), (2, .int p2), (3, .int p3), (4, .int p4), (5, .int p5), (7, .int (v8.1 + 1))] rfl ?_
            exact hk1 ((v8.1 + 1), v8.2.1, v8.2.2) (Option.some.inj h).symm
          · replace h := it_f c13 h
            refine g_aload_n C dX7_append_106 rfl 1 rfl ?_
            refine g_get C 7 9 gin7 0 rfl rfl 1 (by decide) mw_5_86 rfl rfl dX7_append_107 ?_
            refine g_aload_n C dX7_append_110 rfl 1 rfl ?_
            refine g_get C 7 60 gin7 0 rfl rfl 2 (by decide) mw_5_87 rfl rfl dX7_append_111 ?_
            refine g_iload C dX7_append_114 0 rfl ?_
            obtain ⟨hi14, h⟩ := ck_of h
            refine g_iast C 1 rfl hi14 [(a0, .inr (7, [.int (q7_thrown r5.2), .ref a0_buffer, .int v8.2.1, .int (q7_at o0), .int (q7_from o0), .int (q7_kind o0), .int (q7_number o0), .int (q7_wrong o0), .ref a0_now, .ref a0_made, .ref a0_history, .ref a0_saved, .int (q7_entries o0), .int (q7_isSaved o0), .ref a0_closed, .ref a0_faces, .ref a0_rankOf, .ref a0_placeOf, .int (q7_faceMany o0), .int (q7_isLaid o0), .ref a0_counted, .ref a0_steps, .ref a0_onto, .ref a0_goes, .int (q7_found o0), .int (q7_images o0), .ref a0_firstImage, .int (q7_gathered o0)])), (a0_buffer, .inl (zI Z, 300, .inl (upd v8.2.2 (ix v8.2.1) r11)))] rfl dX7_append_116 ?_
            refine g_aload_n C dX7_append_117 rfl 1 rfl ?_
            refine g_dup C dX7_append_118 rfl ?_
            refine g_get C 7 60 gin7 0 rfl rfl 2 (by decide) mw_5_87 rfl rfl dX7_append_119 ?_
            refine g_iconst C 1 dX7_append_122 (by decide) ?_
            refine g_iadd C dX7_append_123 ?_
            refine g_put C 7 60 gin7 tyX7 tyX7_ok nmX7 0 rfl rfl 2 (by decide) mw_5_87 rfl rfl (ty := .int) (by decide +kernel) rfl rfl (Nat.le_of_ble_eq_true rfl) [(a0, .inr (7, [.int (q7_thrown r5.2), .ref a0_buffer, .int (v8.2.1 + 1), .int (q7_at o0), .int (q7_from o0), .int (q7_kind o0), .int (q7_number o0), .int (q7_wrong o0), .ref a0_now, .ref a0_made, .ref a0_history, .ref a0_saved, .int (q7_entries o0), .int (q7_isSaved o0), .ref a0_closed, .ref a0_faces, .ref a0_rankOf, .ref a0_placeOf, .int (q7_faceMany o0), .int (q7_isLaid o0), .ref a0_counted, .ref a0_steps, .ref a0_onto, .ref a0_goes, .int (q7_found o0), .int (q7_images o0), .ref a0_firstImage, .int (q7_gathered o0)])), (a0_buffer, .inl (zI Z, 300, .inl (upd v8.2.2 (ix v8.2.1) r11)))] rfl dX7_append_124 ?_
            refine g_iinc C (v8.1 + 1) dX7_append_127 7 rfl rfl (by decide) [(7, .int (v8.1 + 1)), (8, .int r11), (0, .ref a0), (1, .int p1), (2, .int p2), (3, .int p3), (4, .int p4), (5, .int p5)] rfl ?_
            refine g_goto C 80 dX7_append_130 (by decide) ?_
            refine g_lv [2, 3, 4, 5, 6, 7, 0] [(0, .ref a0), (1, .int p1), (2, .int p2), (3, .int p3), (4, .int p4), (5, .int p5), (7, .int (v8.1 + 1))] rfl ?_
            exact hk1 ((v8.1 + 1), (v8.2.1 + 1), (upd v8.2.2 (ix v8.2.1) r11)) (Option.some.inj h).symm
      · replace h := it_f c7 h
        refine g_iconst C 0 dX7_append_75 (by decide) ?_
        obtain rfl := Option.some.inj h
        subst hQ
        exact g_iret C rfl hr hlk dX7_append_76 [0, 1] rfl (by decide)
    refine g_icmp_gt C 67 dX7_append_60 (by decide) (fun c15 => ?_) (fun c15 => ?_)
    · replace h := it_t c15 h
      refine g_iconst C 0 dX7_append_67 (by decide) ?_
      refine g_lv [0, 1, 2, 3, 4, 5] [(0, .ref a0), (1, .int p1), (2, .int p2), (3, .int p3), (4, .int p4), (5, .int p5)] rfl ?_
      exact hj68 0 h
    · replace h := it_f c15 h
      refine g_iconst C 1 dX7_append_63 (by decide) ?_
      refine g_goto C 68 dX7_append_64 (by decide) ?_
      refine g_lv [0, 1, 2, 3, 4, 5] [(0, .ref a0), (1, .int p1), (2, .int p2), (3, .int p3), (4, .int p4), (5, .int p5)] rfl ?_
      exact hj68 1 h
  · replace h := it_f c2 h
    refine g_iload C dX7_append_18 6 rfl ?_
    refine g_iload_n C dX7_append_20 rfl 1 rfl ?_
    refine g_iload_n C dX7_append_21 rfl 2 rfl ?_
    refine g_iload_n C dX7_append_22 rfl 3 rfl ?_
    refine g_iload C dX7_append_23 4 rfl ?_
    refine g_iload C dX7_append_25 5 rfl ?_
    refine g_iload C dX7_append_27 7 rfl ?_
    obtain ⟨r16, hr17, h⟩ := bd_of h
    refine g_callSi C (kX7_byteOf l Z p1 p2 p3 p4 p5 v1.2 r16 hr17) myX7_byteOf 56 mw_5_178 rfl [] [0, 1] [0, 1] (wr := [(a0, .inr (7, [.int 0, .ref a0_buffer, .int (q7_length o0), .int (q7_at o0), .int (q7_from o0), .int (q7_kind o0), .int (q7_number o0), .int (q7_wrong o0), .ref a0_now, .ref a0_made, .ref a0_history, .ref a0_saved, .int (q7_entries o0), .int (q7_isSaved o0), .ref a0_closed, .ref a0_faces, .ref a0_rankOf, .ref a0_placeOf, .int (q7_faceMany o0), .int (q7_isLaid o0), .ref a0_counted, .ref a0_steps, .ref a0_onto, .ref a0_goes, .int (q7_found o0), .int (q7_images o0), .ref a0_firstImage, .int (q7_gathered o0)])), (a0_buffer, .inl (zI Z, 300, .inl (q7_buffer o0)))]) rfl rfl (by decide) (by decide) (by decide) [(a0, .inr (7, [.int 0, .ref a0_buffer, .int (q7_length o0), .int (q7_at o0), .int (q7_from o0), .int (q7_kind o0), .int (q7_number o0), .int (q7_wrong o0), .ref a0_now, .ref a0_made, .ref a0_history, .ref a0_saved, .int (q7_entries o0), .int (q7_isSaved o0), .ref a0_closed, .ref a0_faces, .ref a0_rankOf, .ref a0_placeOf, .int (q7_faceMany o0), .int (q7_isLaid o0), .ref a0_counted, .ref a0_steps, .ref a0_onto, .ref a0_goes, .int (q7_found o0), .int (q7_images o0), .ref a0_firstImage, .int (q7_gathered o0)])), (a0_buffer, .inl (zI Z, 300, .inl (q7_buffer o0)))] rfl (by decide) (Nat.le_of_ble_eq_true rfl) (by rw [hR]; exact Nat.le_of_ble_eq_true rfl) (by rw [hR]; exact Nat.le_of_ble_eq_true rfl) ⟨by rw [hR]; exact Nat.le_of_ble_eq_true rfl, by rw [hR]; exact Nat.le_of_ble_eq_true rfl⟩ rfl dX7_append_29 ?_
    refine g_if_eq C 39 dX7_append_32 (by decide) (fun c18 => ?_) (fun c18 => ?_)
    · replace h := it_t c18 h
      refine g_iconst C 0 dX7_append_39 (by decide) ?_
      refine g_iadd C dX7_append_40 ?_
      refine g_istore C dX7_append_41 (by decide) [(6, .int (v1.1 + 0)), (0, .ref a0), (1, .int p1), (2, .int p2), (3, .int p3), (4, .int p4), (5, .int p5), (7, .int v1.2)] rfl ?_
      refine g_iinc C (v1.2 + 1) dX7_append_43 7 rfl rfl (by decide) [(7, .int (v1.2 + 1)), (6, .int (v1.1 + 0)), (0, .ref a0), (1, .int p1), (2, .int p2), (3, .int p3), (4, .int p4), (5, .int p5)] rfl ?_
      refine g_goto C 11 dX7_append_46 (by decide) ?_
      refine g_lv [2, 3, 4, 5, 6, 7, 1, 0] [(0, .ref a0), (1, .int p1), (2, .int p2), (3, .int p3), (4, .int p4), (5, .int p5), (6, .int (v1.1 + 0)), (7, .int (v1.2 + 1))] rfl ?_
      exact hk1 ((v1.1 + 0), (v1.2 + 1)) (Option.some.inj h).symm
    · replace h := it_f c18 h
      refine g_iconst C 1 dX7_append_35 (by decide) ?_
      refine g_goto C 40 dX7_append_36 (by decide) ?_
      refine g_iadd C dX7_append_40 ?_
      refine g_istore C dX7_append_41 (by decide) [(6, .int (v1.1 + 1)), (0, .ref a0), (1, .int p1), (2, .int p2), (3, .int p3), (4, .int p4), (5, .int p5), (7, .int v1.2)] rfl ?_
      refine g_iinc C (v1.2 + 1) dX7_append_43 7 rfl rfl (by decide) [(7, .int (v1.2 + 1)), (6, .int (v1.1 + 1)), (0, .ref a0), (1, .int p1), (2, .int p2), (3, .int p3), (4, .int p4), (5, .int p5)] rfl ?_
      refine g_goto C 11 dX7_append_46 (by decide) ?_
      refine g_lv [2, 3, 4, 5, 6, 7, 1, 0] [(0, .ref a0), (1, .int p1), (2, .int p2), (3, .int p3), (4, .int p4), (5, .int p5), (6, .int (v1.1 + 1)), (7, .int (v1.2 + 1))] rfl ?_
      exact hk1 ((v1.1 + 1), (v1.2 + 1)) (Option.some.inj h).symm
def fX7_truncate (o0 : OX7) (p1 : Int32) : Option (Int32 × OX7) :=
  (fX7_in p1 0 (q7_length o0)).bind fun r1 =>
  ((fX7_fails (s7_thrown o0 0) r1 1).bind fun r3 =>
  (if r3.1 = 0 then (some (p1, (s7_length (s7_thrown o0 (q7_thrown r3.2)) p1)))
  else (some (0, (s7_thrown o0 (q7_thrown r3.2))))))
theorem myX7_truncate : MYv yX7_truncate cX7_truncate 2 (some .int) 1 := ⟨mw_5_186, mw_5_187, mw_5_188, mw_1_9, ⟨by decide +kernel, by decide +kernel⟩, by decide +kernel⟩
set_option maxRecDepth 100000 in
set_option maxHeartbeats 4000000 in
theorem kX7_truncate (l : Launch) (Z : GZ) (a0 a0_buffer a0_now a0_made a0_history a0_saved a0_closed a0_faces a0_rankOf a0_placeOf a0_counted a0_steps a0_onto a0_goes a0_firstImage : Nat) (o0 : OX7) (p1 : Int32) (res : Int32 × OX7) (h : fX7_truncate o0 p1 = some res) : MI l Z yX7_truncate cX7_truncate 2 .int 1 22 [.ref a0, .int p1] [(a0, .inr (7, [.int (q7_thrown o0), .ref a0_buffer, .int (q7_length o0), .int (q7_at o0), .int (q7_from o0), .int (q7_kind o0), .int (q7_number o0), .int (q7_wrong o0), .ref a0_now, .ref a0_made, .ref a0_history, .ref a0_saved, .int (q7_entries o0), .int (q7_isSaved o0), .ref a0_closed, .ref a0_faces, .ref a0_rankOf, .ref a0_placeOf, .int (q7_faceMany o0), .int (q7_isLaid o0), .ref a0_counted, .ref a0_steps, .ref a0_onto, .ref a0_goes, .int (q7_found o0), .int (q7_images o0), .ref a0_firstImage, .int (q7_gathered o0)]))] res.1 [(a0, .inr (7, [.int (q7_thrown res.2), .ref a0_buffer, .int (q7_length res.2), .int (q7_at o0), .int (q7_from o0), .int (q7_kind o0), .int (q7_number o0), .int (q7_wrong o0), .ref a0_now, .ref a0_made, .ref a0_history, .ref a0_saved, .int (q7_entries o0), .int (q7_isSaved o0), .ref a0_closed, .ref a0_faces, .ref a0_rankOf, .ref a0_placeOf, .int (q7_faceMany o0), .int (q7_isLaid o0), .ref a0_counted, .ref a0_steps, .ref a0_onto, .ref a0_goes, .int (q7_found o0), .int (q7_images o0), .ref a0_firstImage, .int (q7_gathered o0)]))] := by
  refine MI_of (by decide +kernel) (Nat.le_of_ble_eq_true rfl) (fun {p e s m args below meth c} A R hR Q hQ C hr hlk => ?_)
  unfold fX7_truncate at h
  refine g_lv [0, 1] [(0, .ref a0), (1, .int p1)] rfl ?_
  refine g_aload_n C dX7_truncate_0 rfl 0 rfl ?_
  refine g_iconst C 0 dX7_truncate_1 (by decide) ?_
  refine g_put C 7 52 gin7 tyX7 tyX7_ok nmX7 0 rfl rfl 0 (by decide) mw_5_85 rfl rfl (ty := .int) (by decide +kernel) rfl rfl (Nat.le_of_ble_eq_true rfl) [(a0, .inr (7, [.int 0, .ref a0_buffer, .int (q7_length o0), .int (q7_at o0), .int (q7_from o0), .int (q7_kind o0), .int (q7_number o0), .int (q7_wrong o0), .ref a0_now, .ref a0_made, .ref a0_history, .ref a0_saved, .int (q7_entries o0), .int (q7_isSaved o0), .ref a0_closed, .ref a0_faces, .ref a0_rankOf, .ref a0_placeOf, .int (q7_faceMany o0), .int (q7_isLaid o0), .ref a0_counted, .ref a0_steps, .ref a0_onto, .ref a0_goes, .int (q7_found o0), .int (q7_images o0), .ref a0_firstImage, .int (q7_gathered o0)]))] rfl dX7_truncate_2 ?_
  refine g_aload_n C dX7_truncate_5 rfl 0 rfl ?_
  refine g_iload_n C dX7_truncate_6 rfl 1 rfl ?_
  refine g_iconst C 0 dX7_truncate_7 (by decide) ?_
  refine g_aload_n C dX7_truncate_8 rfl 0 rfl ?_
  refine g_get C 7 60 gin7 0 rfl rfl 2 (by decide) mw_5_87 rfl rfl dX7_truncate_9 ?_
  obtain ⟨r1, hr2, h⟩ := bd_of h
  refine g_callSi C (kX7_in l Z p1 0 (q7_length o0) r1 hr2) myX7_in 67 mw_5_189 rfl [] [0] [0] (wr := [(a0, .inr (7, [.int 0, .ref a0_buffer, .int (q7_length o0), .int (q7_at o0), .int (q7_from o0), .int (q7_kind o0), .int (q7_number o0), .int (q7_wrong o0), .ref a0_now, .ref a0_made, .ref a0_history, .ref a0_saved, .int (q7_entries o0), .int (q7_isSaved o0), .ref a0_closed, .ref a0_faces, .ref a0_rankOf, .ref a0_placeOf, .int (q7_faceMany o0), .int (q7_isLaid o0), .ref a0_counted, .ref a0_steps, .ref a0_onto, .ref a0_goes, .int (q7_found o0), .int (q7_images o0), .ref a0_firstImage, .int (q7_gathered o0)]))]) rfl rfl (by decide) (by decide) (by decide) [(a0, .inr (7, [.int 0, .ref a0_buffer, .int (q7_length o0), .int (q7_at o0), .int (q7_from o0), .int (q7_kind o0), .int (q7_number o0), .int (q7_wrong o0), .ref a0_now, .ref a0_made, .ref a0_history, .ref a0_saved, .int (q7_entries o0), .int (q7_isSaved o0), .ref a0_closed, .ref a0_faces, .ref a0_rankOf, .ref a0_placeOf, .int (q7_faceMany o0), .int (q7_isLaid o0), .ref a0_counted, .ref a0_steps, .ref a0_onto, .ref a0_goes, .int (q7_found o0), .int (q7_images o0), .ref a0_firstImage, .int (q7_gathered o0)]))] rfl (by decide) (Nat.le_of_ble_eq_true rfl) (by rw [hR]; exact Nat.le_of_ble_eq_true rfl) (by rw [hR]; exact Nat.le_of_ble_eq_true rfl) ⟨by rw [hR]; exact Nat.le_of_ble_eq_true rfl, by rw [hR]; exact Nat.le_of_ble_eq_true rfl⟩ rfl dX7_truncate_12 ?_
  refine g_iconst C 1 dX7_truncate_15 (by decide) ?_
  obtain ⟨r3, hr4, h⟩ := bd_of h
  refine g_callVi C (kX7_fails l Z a0 a0_buffer a0_now a0_made a0_history a0_saved a0_closed a0_faces a0_rankOf a0_placeOf a0_counted a0_steps a0_onto a0_goes a0_firstImage (s7_thrown o0 0) r1 1 r3 hr4) 0 rfl (ci := 7) rfl rfl myX7_fails 63 mw_5_181 rfl [0] [] [0] (wr := []) rfl rfl (by decide) (by decide) (by decide) [(a0, .inr (7, [.int (q7_thrown r3.2), .ref a0_buffer, .int (q7_length o0), .int (q7_at o0), .int (q7_from o0), .int (q7_kind o0), .int (q7_number o0), .int (q7_wrong o0), .ref a0_now, .ref a0_made, .ref a0_history, .ref a0_saved, .int (q7_entries o0), .int (q7_isSaved o0), .ref a0_closed, .ref a0_faces, .ref a0_rankOf, .ref a0_placeOf, .int (q7_faceMany o0), .int (q7_isLaid o0), .ref a0_counted, .ref a0_steps, .ref a0_onto, .ref a0_goes, .int (q7_found o0), .int (q7_images o0), .ref a0_firstImage, .int (q7_gathered o0)]))] rfl (by decide) (Nat.le_of_ble_eq_true rfl) (by rw [hR]; exact Nat.le_of_ble_eq_true rfl) (by rw [hR]; exact Nat.le_of_ble_eq_true rfl) ⟨by rw [hR]; exact Nat.le_of_ble_eq_true rfl, by rw [hR]; exact Nat.le_of_ble_eq_true rfl⟩ rfl dX7_truncate_16 ?_
  refine g_if_eq C 24 dX7_truncate_19 (by decide) (fun c5 => ?_) (fun c5 => ?_)
  · replace h := it_t c5 h
    refine g_aload_n C dX7_truncate_24 rfl 0 rfl ?_
    refine g_iload_n C dX7_truncate_25 rfl 1 rfl ?_
    refine g_put C 7 60 gin7 tyX7 tyX7_ok nmX7 0 rfl rfl 2 (by decide) mw_5_87 rfl rfl (ty := .int) (by decide +kernel) rfl rfl (Nat.le_of_ble_eq_true rfl) [(a0, .inr (7, [.int (q7_thrown r3.2), .ref a0_buffer, .int p1, .int (q7_at o0), .int (q7_from o0), .int (q7_kind o0), .int (q7_number o0), .int (q7_wrong o0), .ref a0_now, .ref a0_made, .ref a0_history, .ref a0_saved, .int (q7_entries o0), .int (q7_isSaved o0), .ref a0_closed, .ref a0_faces, .ref a0_rankOf, .ref a0_placeOf, .int (q7_faceMany o0), .int (q7_isLaid o0), .ref a0_counted, .ref a0_steps, .ref a0_onto, .ref a0_goes, .int (q7_found o0), .int (q7_images o0), .ref a0_firstImage, .int (q7_gathered o0)]))] rfl dX7_truncate_26 ?_
    refine g_iload_n C dX7_truncate_29 rfl 1 rfl ?_
    obtain rfl := Option.some.inj h
    subst hQ
    exact g_iret C rfl hr hlk dX7_truncate_30 [0] rfl (by decide)
  · replace h := it_f c5 h
    refine g_iconst C 0 dX7_truncate_22 (by decide) ?_
    obtain rfl := Option.some.inj h
    subst hQ
    exact g_iret C rfl hr hlk dX7_truncate_23 [0] rfl (by decide)
def fX7_peek (o0 : OX7) (p1 : Int32) : Option (Int32) :=
  if (q7_length o0) ≤ p1 then (some (-1))
  else (ck (okI p1 300) (some ((q7_buffer o0) (ix p1))))
theorem myX7_peek : MYv yX7_peek cX7_peek 2 (some .int) 1 := ⟨mw_5_206, ms_36, mw_5_207, mw_1_9, ⟨by decide +kernel, by decide +kernel⟩, by decide +kernel⟩
set_option maxRecDepth 100000 in
set_option maxHeartbeats 4000000 in
theorem kX7_peek (l : Launch) (Z : GZ) (a0 a0_buffer a0_now a0_made a0_history a0_saved a0_closed a0_faces a0_rankOf a0_placeOf a0_counted a0_steps a0_onto a0_goes a0_firstImage : Nat) (o0 : OX7) (p1 : Int32) (res : Int32) (h : fX7_peek o0 p1 = some res) : MI l Z yX7_peek cX7_peek 2 .int 0 0 [.ref a0, .int p1] [(a0, .inr (7, [.int (q7_thrown o0), .ref a0_buffer, .int (q7_length o0), .int (q7_at o0), .int (q7_from o0), .int (q7_kind o0), .int (q7_number o0), .int (q7_wrong o0), .ref a0_now, .ref a0_made, .ref a0_history, .ref a0_saved, .int (q7_entries o0), .int (q7_isSaved o0), .ref a0_closed, .ref a0_faces, .ref a0_rankOf, .ref a0_placeOf, .int (q7_faceMany o0), .int (q7_isLaid o0), .ref a0_counted, .ref a0_steps, .ref a0_onto, .ref a0_goes, .int (q7_found o0), .int (q7_images o0), .ref a0_firstImage, .int (q7_gathered o0)])), (a0_buffer, .inl (zI Z, 300, .inl (q7_buffer o0)))] res [(a0, .inr (7, [.int (q7_thrown o0), .ref a0_buffer, .int (q7_length o0), .int (q7_at o0), .int (q7_from o0), .int (q7_kind o0), .int (q7_number o0), .int (q7_wrong o0), .ref a0_now, .ref a0_made, .ref a0_history, .ref a0_saved, .int (q7_entries o0), .int (q7_isSaved o0), .ref a0_closed, .ref a0_faces, .ref a0_rankOf, .ref a0_placeOf, .int (q7_faceMany o0), .int (q7_isLaid o0), .ref a0_counted, .ref a0_steps, .ref a0_onto, .ref a0_goes, .int (q7_found o0), .int (q7_images o0), .ref a0_firstImage, .int (q7_gathered o0)])), (a0_buffer, .inl (zI Z, 300, .inl (q7_buffer o0)))] := by
  refine MI_of (by decide +kernel) (Nat.le_of_ble_eq_true rfl) (fun {p e s m args below meth c} A R hR Q hQ C hr hlk => ?_)
  unfold fX7_peek at h
  refine g_lv [0, 1] [(0, .ref a0), (1, .int p1)] rfl ?_
  refine g_iload_n C dX7_peek_0 rfl 1 rfl ?_
  refine g_aload_n C dX7_peek_1 rfl 0 rfl ?_
  refine g_get C 7 60 gin7 0 rfl rfl 2 (by decide) mw_5_87 rfl rfl dX7_peek_2 ?_
  refine g_icmp_ge C 17 dX7_peek_5 (by decide) (fun c1 => ?_) (fun c1 => ?_)
  · replace h := it_t c1 h
    refine g_iconst C (-1) dX7_peek_17 (by decide) ?_
    obtain rfl := Option.some.inj h
    subst hQ
    exact g_iret C rfl hr hlk dX7_peek_18 [0, 1] rfl (by decide)
  · replace h := it_f c1 h
    refine g_aload_n C dX7_peek_8 rfl 0 rfl ?_
    refine g_get C 7 9 gin7 0 rfl rfl 1 (by decide) mw_5_86 rfl rfl dX7_peek_9 ?_
    refine g_iload_n C dX7_peek_12 rfl 1 rfl ?_
    obtain ⟨hi2, h⟩ := ck_of h
    refine g_iald C 1 rfl hi2 dX7_peek_13 ?_
    refine g_goto C 18 dX7_peek_14 (by decide) ?_
    obtain rfl := Option.some.inj h
    subst hQ
    exact g_iret C rfl hr hlk dX7_peek_18 [0, 1] rfl (by decide)
def fX7_isLetter (p0 : Int32) : Option (Int32) :=
  if p0 < 97 then (some 0)
  else (if 122 < p0 then (some 0)
  else (some 1))
theorem myX7_isLetter : MYs yX7_isLetter cX7_isLetter 1 (some .boolean) 1 := ⟨mw_5_209, mw_5_210, mw_1_9, ⟨by decide +kernel, by decide +kernel⟩, by decide +kernel⟩
set_option maxRecDepth 100000 in
set_option maxHeartbeats 4000000 in
theorem kX7_isLetter (l : Launch) (Z : GZ) (p0 : Int32) (res : Int32) (h : fX7_isLetter p0 = some res) : MI l Z yX7_isLetter cX7_isLetter 1 .boolean 0 0 [.int p0] [] res [] := by
  refine MI_of (by decide +kernel) (Nat.le_of_ble_eq_true rfl) (fun {p e s m args below meth c} A R hR Q hQ C hr hlk => ?_)
  unfold fX7_isLetter at h
  refine g_lv [0] [(0, .int p0)] rfl ?_
  refine g_iload_n C dX7_isLetter_0 rfl 0 rfl ?_
  refine g_bipush C 97 dX7_isLetter_1 (by decide) ?_
  refine g_icmp_lt C 16 dX7_isLetter_3 (by decide) (fun c1 => ?_) (fun c1 => ?_)
  · replace h := it_t c1 h
    refine g_iconst C 0 dX7_isLetter_16 (by decide) ?_
    obtain rfl := Option.some.inj h
    subst hQ
    exact g_zret C rfl (Or.inl rfl) hr hlk dX7_isLetter_17 [] rfl (by decide)
  · replace h := it_f c1 h
    refine g_iload_n C dX7_isLetter_6 rfl 0 rfl ?_
    refine g_bipush C 122 dX7_isLetter_7 (by decide) ?_
    refine g_icmp_gt C 16 dX7_isLetter_9 (by decide) (fun c2 => ?_) (fun c2 => ?_)
    · replace h := it_t c2 h
      refine g_iconst C 0 dX7_isLetter_16 (by decide) ?_
      obtain rfl := Option.some.inj h
      subst hQ
      exact g_zret C rfl (Or.inl rfl) hr hlk dX7_isLetter_17 [] rfl (by decide)
    · replace h := it_f c2 h
      refine g_iconst C 1 dX7_isLetter_12 (by decide) ?_
      refine g_goto C 17 dX7_isLetter_13 (by decide) ?_
      obtain rfl := Option.some.inj h
      subst hQ
      exact g_zret C rfl (Or.inr rfl) hr hlk dX7_isLetter_17 [] rfl (by decide)
def fX7_isDigit (p0 : Int32) : Option (Int32) :=
  if p0 < 48 then (some 0)
  else (if 57 < p0 then (some 0)
  else (some 1))
theorem myX7_isDigit : MYs yX7_isDigit cX7_isDigit 1 (some .boolean) 1 := ⟨mw_5_212, mw_5_213, mw_1_9, ⟨by decide +kernel, by decide +kernel⟩, by decide +kernel⟩
set_option maxRecDepth 100000 in
set_option maxHeartbeats 4000000 in
theorem kX7_isDigit (l : Launch) (Z : GZ) (p0 : Int32) (res : Int32) (h : fX7_isDigit p0 = some res) : MI l Z yX7_isDigit cX7_isDigit 1 .boolean 0 0 [.int p0] [] res [] := by
  refine MI_of (by decide +kernel) (Nat.le_of_ble_eq_true rfl) (fun {p e s m args below meth c} A R hR Q hQ C hr hlk => ?_)
  unfold fX7_isDigit at h
  refine g_lv [0] [(0, .int p0)] rfl ?_
  refine g_iload_n C dX7_isDigit_0 rfl 0 rfl ?_
  refine g_bipush C 48 dX7_isDigit_1 (by decide) ?_
  refine g_icmp_lt C 16 dX7_isDigit_3 (by decide) (fun c1 => ?_) (fun c1 => ?_)
  · replace h := it_t c1 h
    refine g_iconst C 0 dX7_isDigit_16 (by decide) ?_
    obtain rfl := Option.some.inj h
    subst hQ
    exact g_zret C rfl (Or.inl rfl) hr hlk dX7_isDigit_17 [] rfl (by decide)
  · replace h := it_f c1 h
    refine g_iload_n C dX7_isDigit_6 rfl 0 rfl ?_
    refine g_bipush C 57 dX7_isDigit_7 (by decide) ?_
    refine g_icmp_gt C 16 dX7_isDigit_9 (by decide) (fun c2 => ?_) (fun c2 => ?_)
    · replace h := it_t c2 h
      refine g_iconst C 0 dX7_isDigit_16 (by decide) ?_
      obtain rfl := Option.some.inj h
      subst hQ
      exact g_zret C rfl (Or.inl rfl) hr hlk dX7_isDigit_17 [] rfl (by decide)
    · replace h := it_f c2 h
      refine g_iconst C 1 dX7_isDigit_12 (by decide) ?_
      refine g_goto C 17 dX7_isDigit_13 (by decide) ?_
      obtain rfl := Option.some.inj h
      subst hQ
      exact g_zret C rfl (Or.inr rfl) hr hlk dX7_isDigit_17 [] rfl (by decide)
def fX7_step_L136 (o0 : OX7) (v1 : Int32) (x8 : Int32) (v13 : Int32 × Int32) : Option ((Int32 × Int32) ⊕ (OX7)) :=
  if x8 = 2 then ((fX7_peek (s7_number (s7_kind (s7_from (s7_at o0 v13.1) v1) x8) v13.2) v13.1).bind fun r16 =>
  ((fX7_isDigit r16).bind fun r18 =>
  (if r18 = 0 then (ex (some (s7_number (s7_kind (s7_from (s7_at o0 v13.1) v1) x8) v13.2)))
  else ((fX7_peek (s7_number (s7_kind (s7_from (s7_at o0 v13.1) v1) x8) v13.2) v13.1).bind fun r22 =>
  (some (.inl ((v13.1 + 1), (jmin 100000 (((10 * v13.2) + r22) - 48)))))))))
  else (ex (some (s7_number (s7_kind (s7_from (s7_at o0 v13.1) v1) x8) v13.2)))
def fX7_step_L136_2 (o0 : OX7) (v1 : Int32) (x8 : Int32) (v30 : Int32 × Int32) : Option ((Int32 × Int32) ⊕ (OX7)) :=
  if x8 = 2 then ((fX7_peek (s7_number (s7_kind (s7_from (s7_at o0 v30.1) v1) x8) v30.2) v30.1).bind fun r33 =>
  ((fX7_isDigit r33).bind fun r35 =>
  (if r35 = 0 then (ex (some (s7_number (s7_kind (s7_from (s7_at o0 v30.1) v1) x8) v30.2)))
  else ((fX7_peek (s7_number (s7_kind (s7_from (s7_at o0 v30.1) v1) x8) v30.2) v30.1).bind fun r39 =>
  (some (.inl ((v30.1 + 1), (jmin 100000 (((10 * v30.2) + r39) - 48)))))))))
  else (ex (some (s7_number (s7_kind (s7_from (s7_at o0 v30.1) v1) x8) v30.2)))
def fX7_step_L101 (o0 : OX7) (v1 : Int32) (x8 : Int32) (v10 : Int32) : Option ((Int32) ⊕ (OX7)) :=
  if x8 = 1 then ((fX7_peek (s7_number (s7_kind (s7_from (s7_at o0 v10) v1) x8) 0) v10).bind fun r24 =>
  ((fX7_isLetter r24).bind fun r26 =>
  (if r26 = 0 then (ex (lp (fX7_step_L136_2 o0 v1 x8) lpN (v10, 0)))
  else (some (.inl (v10 + 1))))))
  else (ex (lp (fX7_step_L136 o0 v1 x8) lpN (v10, 0)))
def fX7_step_L136_3 (o0 : OX7) (v1 : Int32) (x8 : Int32) (v44 : Int32 × Int32) : Option ((Int32 × Int32) ⊕ (OX7)) :=
  if x8 = 2 then ((fX7_peek (s7_number (s7_kind (s7_from (s7_at o0 v44.1) v1) x8) v44.2) v44.1).bind fun r47 =>
  ((fX7_isDigit r47).bind fun r49 =>
  (if r49 = 0 then (ex (some (s7_number (s7_kind (s7_from (s7_at o0 v44.1) v1) x8) v44.2)))
  else ((fX7_peek (s7_number (s7_kind (s7_from (s7_at o0 v44.1) v1) x8) v44.2) v44.1).bind fun r53 =>
  (some (.inl ((v44.1 + 1), (jmin 100000 (((10 * v44.2) + r53) - 48)))))))))
  else (ex (some (s7_number (s7_kind (s7_from (s7_at o0 v44.1) v1) x8) v44.2)))
def fX7_step_L136_4 (o0 : OX7) (v1 : Int32) (x8 : Int32) (v61 : Int32 × Int32) : Option ((Int32 × Int32) ⊕ (OX7)) :=
  if x8 = 2 then ((fX7_peek (s7_number (s7_kind (s7_from (s7_at o0 v61.1) v1) x8) v61.2) v61.1).bind fun r64 =>
  ((fX7_isDigit r64).bind fun r66 =>
  (if r66 = 0 then (ex (some (s7_number (s7_kind (s7_from (s7_at o0 v61.1) v1) x8) v61.2)))
  else ((fX7_peek (s7_number (s7_kind (s7_from (s7_at o0 v61.1) v1) x8) v61.2) v61.1).bind fun r70 =>
  (some (.inl ((v61.1 + 1), (jmin 100000 (((10 * v61.2) + r70) - 48)))))))))
  else (ex (some (s7_number (s7_kind (s7_from (s7_at o0 v61.1) v1) x8) v61.2)))
def fX7_step_L101_2 (o0 : OX7) (v1 : Int32) (x8 : Int32) (v41 : Int32) : Option ((Int32) ⊕ (OX7)) :=
  if x8 = 1 then ((fX7_peek (s7_number (s7_kind (s7_from (s7_at o0 v41) v1) x8) 0) v41).bind fun r55 =>
  ((fX7_isLetter r55).bind fun r57 =>
  (if r57 = 0 then (ex (lp (fX7_step_L136_4 o0 v1 x8) lpN (v41, 0)))
  else (some (.inl (v41 + 1))))))
  else (ex (lp (fX7_step_L136_3 o0 v1 x8) lpN (v41, 0)))
def fX7_step_J75 (o0 : OX7) (v1 : Int32) (x8 : Int32) : Option (OX7) :=
  if x8 = 3 then (lp (fX7_step_L101_2 o0 v1 x8) lpN (v1 + 1))
  else (lp (fX7_step_L101 o0 v1 x8) lpN v1)
def fX7_step_L0 (o0 : OX7) (v1 : Int32) : Option ((Int32) ⊕ (OX7)) :=
  (fX7_peek (s7_at o0 v1) v1).bind fun r2 =>
  (if r2 = 32 then (some (.inl (v1 + 1)))
  else (ex ((fX7_peek (s7_from (s7_at o0 v1) v1) v1).bind fun r6 =>
  (if 0 ≤ r6 then ((fX7_isLetter r6).bind fun r73 =>
  (if r73 = 0 then ((fX7_isDigit r6).bind fun r76 =>
  (if r76 = 0 then (fX7_step_J75 o0 v1 3)
  else (fX7_step_J75 o0 v1 2)))
  else (fX7_step_J75 o0 v1 1)))
  else (fX7_step_J75 o0 v1 0)))))
def fX7_step (o0 : OX7) : Option (OX7) :=
  lp (fX7_step_L0 o0) lpN (q7_at o0)
theorem myX7_step : MYv yX7_step cX7_step 2 none 0 := ⟨mw_5_202, ms_35, mw_5_203, mw_1_9, ⟨by decide +kernel, by decide +kernel⟩, by decide +kernel⟩
set_option maxRecDepth 100000 in
set_option maxHeartbeats 4000000 in
theorem kX7_step (l : Launch) (Z : GZ) (a0 a0_buffer a0_now a0_made a0_history a0_saved a0_closed a0_faces a0_rankOf a0_placeOf a0_counted a0_steps a0_onto a0_goes a0_firstImage : Nat) (o0 : OX7) (res : OX7) (h : fX7_step o0 = some res) : MV l Z yX7_step cX7_step 2 1 21 [.ref a0] [(a0, .inr (7, [.int (q7_thrown o0), .ref a0_buffer, .int (q7_length o0), .int (q7_at o0), .int (q7_from o0), .int (q7_kind o0), .int (q7_number o0), .int (q7_wrong o0), .ref a0_now, .ref a0_made, .ref a0_history, .ref a0_saved, .int (q7_entries o0), .int (q7_isSaved o0), .ref a0_closed, .ref a0_faces, .ref a0_rankOf, .ref a0_placeOf, .int (q7_faceMany o0), .int (q7_isLaid o0), .ref a0_counted, .ref a0_steps, .ref a0_onto, .ref a0_goes, .int (q7_found o0), .int (q7_images o0), .ref a0_firstImage, .int (q7_gathered o0)])), (a0_buffer, .inl (zI Z, 300, .inl (q7_buffer o0)))] [(a0, .inr (7, [.int (q7_thrown o0), .ref a0_buffer, .int (q7_length o0), .int (q7_at res), .int (q7_from res), .int (q7_kind res), .int (q7_number res), .int (q7_wrong o0), .ref a0_now, .ref a0_made, .ref a0_history, .ref a0_saved, .int (q7_entries o0), .int (q7_isSaved o0), .ref a0_closed, .ref a0_faces, .ref a0_rankOf, .ref a0_placeOf, .int (q7_faceMany o0), .int (q7_isLaid o0), .ref a0_counted, .ref a0_steps, .ref a0_onto, .ref a0_goes, .int (q7_found o0), .int (q7_images o0), .ref a0_firstImage, .int (q7_gathered o0)])), (a0_buffer, .inl (zI Z, 300, .inl (q7_buffer o0)))] := by
  refine MV_of (by decide +kernel) (Nat.le_of_ble_eq_true rfl) (fun {p e s m args below meth c} A R hR Q hQ C hr hlk => ?_)
  unfold fX7_step at h
  refine g_lv [0] [(0, .ref a0)] rfl ?_
  refine g_loop (lvf := fun v1 => [(0, .ref a0)]) (wsf := fun v1 => [(a0, .inr (7, [.int (q7_thrown o0), .ref a0_buffer, .int (q7_length o0), .int v1, .int (q7_from o0), .int (q7_kind o0), .int (q7_number o0), .int (q7_wrong o0), .ref a0_now, .ref a0_made, .ref a0_history, .ref a0_saved, .int (q7_entries o0), .int (q7_isSaved o0), .ref a0_closed, .ref a0_faces, .ref a0_rankOf, .ref a0_placeOf, .int (q7_faceMany o0), .int (q7_isLaid o0), .ref a0_counted, .ref a0_steps, .ref a0_onto, .ref a0_goes, .int (q7_found o0), .int (q7_images o0), .ref a0_firstImage, .int (q7_gathered o0)])), (a0_buffer, .inl (zI Z, 300, .inl (q7_buffer o0)))]) h (fun v1 y1 h hk1 hx1 => ?_)
  refine g_eq (lv1 := [(0, .ref a0)]) (st1 := []) (ws1 := [(a0, .inr (7, [.int (q7_thrown o0), .ref a0_buffer, .int (q7_length o0), .int v1, .int (q7_from o0), .int (q7_kind o0), .int (q7_number o0), .int (q7_wrong o0), .ref a0_now, .ref a0_made, .ref a0_history, .ref a0_saved, .int (q7_entries o0), .int (q7_isSaved o0), .ref a0_closed, .ref a0_faces, .ref a0_rankOf, .ref a0_placeOf, .int (q7_faceMany o0), .int (q7_isLaid o0), .ref a0_counted, .ref a0_steps, .ref a0_onto, .ref a0_goes, .int (q7_found o0), .int (q7_images o0), .ref a0_firstImage, .int (q7_gathered o0)])), (a0_buffer, .inl (zI Z, 300, .inl (q7_buffer o0)))]) rfl rfl rfl rfl ?_
  unfold fX7_step_L0 at h
  refine g_aload_n C dX7_step_0 rfl 0 rfl ?_
  refine g_aload_n C dX7_step_1 rfl 0 rfl ?_
  refine g_get C 7 71 gin7 0 rfl rfl 3 (by decide) mw_5_88 rfl rfl dX7_step_2 ?_
  obtain ⟨r2, hr3, h⟩ := bd_of h
  refine g_callVi C (kX7_peek l Z a0 a0_buffer a0_now a0_made a0_history a0_saved a0_closed a0_faces a0_rankOf a0_placeOf a0_counted a0_steps a0_onto a0_goes a0_firstImage (s7_at o0 v1) v1 r2 hr3) 0 rfl (ci := 7) rfl rfl myX7_peek 74 mw_5_204 rfl [0, 1] [] [0, 1] (wr := []) rfl rfl (by decide) (by decide) (by decide) [(a0, .inr (7, [.int (q7_thrown o0), .ref a0_buffer, .int (q7_length o0), .int v1, .int (q7_from o0), .int (q7_kind o0), .int (q7_number o0), .int (q7_wrong o0), .ref a0_now, .ref a0_made, .ref a0_history, .ref a0_saved, .int (q7_entries o0), .int (q7_isSaved o0), .ref a0_closed, .ref a0_faces, .ref a0_rankOf, .ref a0_placeOf, .int (q7_faceMany o0), .int (q7_isLaid o0), .ref a0_counted, .ref a0_steps, .ref a0_onto, .ref a0_goes, .int (q7_found o0), .int (q7_images o0), .ref a0_firstImage, .int (q7_gathered o0)])), (a0_buffer, .inl (zI Z, 300, .inl (q7_buffer o0)))] rfl (by decide) (Nat.le_of_ble_eq_true rfl) (by rw [hR]; exact Nat.le_of_ble_eq_true rfl) (by rw [hR]; exact Nat.le_of_ble_eq_true rfl) ⟨by rw [hR]; exact Nat.le_of_ble_eq_true rfl, by rw [hR]; exact Nat.le_of_ble_eq_true rfl⟩ rfl dX7_step_5 ?_
  refine g_bipush C 32 dX7_step_8 (by decide) ?_
  refine g_icmp_ne C 26 dX7_step_10 (by decide) (fun c4 => ?_) (fun c4 => ?_)
  · replace h := it_f c4 h
    obtain ⟨r5, h, hy⟩ := ex_of h
    rw [hx1 r5 hy] at h
    refine g_aload_n C dX7_step_26 rfl 0 rfl ?_
    refine g_aload_n C dX7_step_27 rfl 0 rfl ?_
    refine g_get C 7 71 gin7 0 rfl rfl 3 (by decide) mw_5_88 rfl rfl dX7_step_28 ?_
    refine g_put C 7 78 gin7 tyX7 tyX7_ok nmX7 0 rfl rfl 4 (by decide) mw_5_89 rfl rfl (ty := .int) (by decide +kernel) rfl rfl (Nat.le_of_ble_eq_true rfl) [(a0, .inr (7, [.int (q7_thrown o0), .ref a0_buffer, .int (q7_length o0), .int v1, .int v1, .int (q7_kind o0), .int (q7_number o0), .int (q7_wrong o0), .ref a0_now, .ref a0_made, .ref a0_history, .ref a0_saved, .int (q7_entries o0), .int (q7_isSaved o0), .ref a0_closed, .ref a0_faces, .ref a0_rankOf, .ref a0_placeOf, .int (q7_faceMany o0), .int (q7_isLaid o0), .ref a0_counted, .ref a0_steps, .ref a0_onto, .ref a0_goes, .int (q7_found o0), .int (q7_images o0), .ref a0_firstImage, .int (q7_gathered o0)])), (a0_buffer, .inl (zI Z, 300, .inl (q7_buffer o0)))] rfl dX7_step_31 ?_
    refine g_aload_n C dX7_step_34 rfl 0 rfl ?_
    refine g_aload_n C dX7_step_35 rfl 0 rfl ?_
    refine g_get C 7 71 gin7 0 rfl rfl 3 (by decide) mw_5_88 rfl rfl dX7_step_36 ?_
    obtain ⟨r6, hr7, h⟩ := bd_of h
    refine g_callVi C (kX7_peek l Z a0 a0_buffer a0_now a0_made a0_history a0_saved a0_closed a0_faces a0_rankOf a0_placeOf a0_counted a0_steps a0_onto a0_goes a0_firstImage (s7_from (s7_at o0 v1) v1) v1 r6 hr7) 0 rfl (ci := 7) rfl rfl myX7_peek 74 mw_5_204 rfl [0, 1] [] [0, 1] (wr := []) rfl rfl (by decide) (by decide) (by decide) [(a0, .inr (7, [.int (q7_thrown o0), .ref a0_buffer, .int (q7_length o0), .int v1, .int v1, .int (q7_kind o0), .int (q7_number o0), .int (q7_wrong o0), .ref a0_now, .ref a0_made, .ref a0_history, .ref a0_saved, .int (q7_entries o0), .int (q7_isSaved o0), .ref a0_closed, .ref a0_faces, .ref a0_rankOf, .ref a0_placeOf, .int (q7_faceMany o0), .int (q7_isLaid o0), .ref a0_counted, .ref a0_steps, .ref a0_onto, .ref a0_goes, .int (q7_found o0), .int (q7_images o0), .ref a0_firstImage, .int (q7_gathered o0)])), (a0_buffer, .inl (zI Z, 300, .inl (q7_buffer o0)))] rfl (by decide) (Nat.le_of_ble_eq_true rfl) (by rw [hR]; exact Nat.le_of_ble_eq_true rfl) (by rw [hR]; exact Nat.le_of_ble_eq_true rfl) ⟨by rw [hR]; exact Nat.le_of_ble_eq_true rfl, by rw [hR]; exact Nat.le_of_ble_eq_true rfl⟩ rfl dX7_step_39 ?_
    refine g_istore_n C dX7_step_42 rfl (by decide) [(1, .int r6), (0, .ref a0)] rfl ?_
    refine g_aload_n C dX7_step_43 rfl 1 rfl ?_
    refine g_iload_n C dX7_step_44 rfl 0 rfl ?_
    have hj75 : ∀ (x8 : Int32), fX7_step_J75 o0 v1 x8 = some res → Gw p l e R s m args below meth c 2 Z A Q 0 0 75 [(0, .ref a0)] [.int x8, .ref a0] [(a0, .inr (7, [.int (q7_thrown o0), .ref a0_buffer, .int (q7_length o0), .int v1, .int v1, .int (q7_kind o0), .int (q7_number o0), .int (q7_wrong o0), .ref a0_now, .ref a0_made, .ref a0_history, .ref a0_saved, .int (q7_entries o0), .int (q7_isSaved o0), .ref a0_closed, .ref a0_faces, .ref a0_rankOf, .ref a0_placeOf, .int (q7_faceMany o0), .int (q7_isLaid o0), .ref a0_counted, .ref a0_steps, .ref a0_onto, .ref a0_goes, .int (q7_found o0), .int (q7_images o0), .ref a0_firstImage, .int (q7_gathered o0)])), (a0_buffer, .inl (zI Z, 300, .inl (q7_buffer o0)))] := by
      intro x8 h
      unfold fX7_step_J75 at h
      refine g_put C 7 88 gin7 tyX7 tyX7_ok nmX7 0 rfl rfl 5 (by decide) mw_5_90 rfl rfl (ty := .int) (by decide +kernel) rfl rfl (Nat.le_of_ble_eq_true rfl) [(a0, .inr (7, [.int (q7_thrown o0), .ref a0_buffer, .int (q7_length o0), .int v1, .int v1, .int x8, .int (q7_number o0), .int (q7_wrong o0), .ref a0_now, .ref a0_made, .ref a0_history, .ref a0_saved, .int (q7_entries o0), .int (q7_isSaved o0), .ref a0_closed, .ref a0_faces, .ref a0_rankOf, .ref a0_placeOf, .int (q7_faceMany o0), .int (q7_isLaid o0), .ref a0_counted, .ref a0_steps, .ref a0_onto, .ref a0_goes, .int (q7_found o0), .int (q7_images o0), .ref a0_firstImage, .int (q7_gathered o0)])), (a0_buffer, .inl (zI Z, 300, .inl (q7_buffer o0)))] rfl dX7_step_75 ?_
      refine g_aload_n C dX7_step_78 rfl 0 rfl ?_
      refine g_iconst C 0 dX7_step_79 (by decide) ?_
      refine g_put C 7 91 gin7 tyX7 tyX7_ok nmX7 0 rfl rfl 6 (by decide) mw_5_91 rfl rfl (ty := .int) (by decide +kernel) rfl rfl (Nat.le_of_ble_eq_true rfl) [(a0, .inr (7, [.int (q7_thrown o0), .ref a0_buffer, .int (q7_length o0), .int v1, .int v1, .int x8, .int 0, .int (q7_wrong o0), .ref a0_now, .ref a0_made, .ref a0_history, .ref a0_saved, .int (q7_entries o0), .int (q7_isSaved o0), .ref a0_closed, .ref a0_faces, .ref a0_rankOf, .ref a0_placeOf, .int (q7_faceMany o0), .int (q7_isLaid o0), .ref a0_counted, .ref a0_steps, .ref a0_onto, .ref a0_goes, .int (q7_found o0), .int (q7_images o0), .ref a0_firstImage, .int (q7_gathered o0)])), (a0_buffer, .inl (zI Z, 300, .inl (q7_buffer o0)))] rfl dX7_step_80 ?_
      refine g_aload_n C dX7_step_83 rfl 0 rfl ?_
      refine g_get C 7 88 gin7 0 rfl rfl 5 (by decide) mw_5_90 rfl rfl dX7_step_84 ?_
      refine g_iconst C 3 dX7_step_87 (by decide) ?_
      refine g_icmp_ne C 101 dX7_step_88 (by decide) (fun c9 => ?_) (fun c9 => ?_)
      · replace h := it_f c9 h
        refine g_loop (lvf := fun v10 => [(0, .ref a0)]) (wsf := fun v10 => [(a0, .inr (7, [.int (q7_thrown o0), .ref a0_buffer, .int (q7_length o0), .int v10, .int v1, .int x8, .int 0, .int (q7_wrong o0), .ref a0_now, .ref a0_made, .ref a0_history, .ref a0_saved, .int (q7_entries o0), .int (q7_isSaved o0), .ref a0_closed, .ref a0_faces, .ref a0_rankOf, .ref a0_placeOf, .int (q7_faceMany o0), .int (q7_isLaid o0), .ref a0_counted, .ref a0_steps, .ref a0_onto, .ref a0_goes, .int (q7_found o0), .int (q7_images o0), .ref a0_firstImage, .int (q7_gathered o0)])), (a0_buffer, .inl (zI Z, 300, .inl (q7_buffer o0)))]) h (fun v10 y1 h hk1 hx1 => ?_)
        refine g_eq (lv1 := [(0, .ref a0)]) (st1 := []) (ws1 := [(a0, .inr (7, [.int (q7_thrown o0), .ref a0_buffer, .int (q7_length o0), .int v10, .int v1, .int x8, .int 0, .int (q7_wrong o0), .ref a0_now, .ref a0_made, .ref a0_history, .ref a0_saved, .int (q7_entries o0), .int (q7_isSaved o0), .ref a0_closed, .ref a0_faces, .ref a0_rankOf, .ref a0_placeOf, .int (q7_faceMany o0), .int (q7_isLaid o0), .ref a0_counted, .ref a0_steps, .ref a0_onto, .ref a0_goes, .int (q7_found o0), .int (q7_images o0), .ref a0_firstImage, .int (q7_gathered o0)])), (a0_buffer, .inl (zI Z, 300, .inl (q7_buffer o0)))]) rfl rfl rfl rfl ?_
        unfold fX7_step_L101 at h
        refine g_aload_n C dX7_step_101 rfl 0 rfl ?_
        refine g_get C 7 88 gin7 0 rfl rfl 5 (by decide) mw_5_90 rfl rfl dX7_step_102 ?_
        refine g_iconst C 1 dX7_step_105 (by decide) ?_
        refine g_icmp_ne C 136 dX7_step_106 (by decide) (fun c11 => ?_) (fun c11 => ?_)
        · replace h := it_f c11 h
          obtain ⟨r12, h, hy⟩ := ex_of h
          rw [hx1 r12 hy] at h
          refine g_loop (lvf := fun v13 => [(0, .ref a0)]) (wsf := fun v13 => [(a0, .inr (7, [.int (q7_thrown o0), .ref a0_buffer, .int (q7_length o0), .int v13.1, .int v1, .int x8, .int v13.2, .int (q7_wrong o0), .ref a0_now, .ref a0_made, .ref a0_history, .ref a0_saved, .int (q7_entries o0), .int (q7_isSaved o0), .ref a0_closed, .ref a0_faces, .ref a0_rankOf, .ref a0_placeOf, .int (q7_faceMany o0), .int (q7_isLaid o0), .ref a0_counted, .ref a0_steps, .ref a0_onto, .ref a0_goes, .int (q7_found o0), .int (q7_images o0), .ref a0_firstImage, .int (q7_gathered o0)])), (a0_buffer, .inl (zI Z, 300, .inl (q7_buffer o0)))]) h (fun v13 y1 h hk1 hx1 => ?_)
          refine g_eq (lv1 := [(0, .ref a0)]) (st1 := []) (ws1 := [(a0, .inr (7, [.int (q7_thrown o0), .ref a0_buffer, .int (q7_length o0), .int v13.1, .int v1, .int x8, .int v13.2, .int (q7_wrong o0), .ref a0_now, .ref a0_made, .ref a0_history, .ref a0_saved, .int (q7_entries o0), .int (q7_isSaved o0), .ref a0_closed, .ref a0_faces, .ref a0_rankOf, .ref a0_placeOf, .int (q7_faceMany o0), .int (q7_isLaid o0), .ref a0_counted, .ref a0_steps, .ref a0_onto, .ref a0_goes, .int (q7_found o0), .int (q7_images o0), .ref a0_firstImage, .int (q7_gathered o0)])), (a0_buffer, .inl (zI Z, 300, .inl (q7_buffer o0)))]) rfl rfl rfl rfl ?_
          unfold fX7_step_L136 at h
          refine g_aload_n C dX7_step_136 rfl 0 rfl ?_
          refine g_get C 7 88 gin7 0 rfl rfl 5 (by decide) mw_5_90 rfl rfl dX7_step_137 ?_
          refine g_iconst C 2 dX7_step_140 (by decide) ?_
          refine g_icmp_ne C 199 dX7_step_141 (by decide) (fun c14 => ?_) (fun c14 => ?_)
          · replace h := it_f c14 h
            obtain ⟨r15, h, hy⟩ := ex_of h
            rw [hx1 r15 hy] at h
            obtain rfl := Option.some.inj h
            subst hQ
            exact g_vret C hr hlk dX7_step_199 [0, 1] rfl (by decide)
          · replace h := it_t c14 h
            refine g_aload_n C dX7_step_144 rfl 0 rfl ?_
            refine g_aload_n C dX7_step_145 rfl 0 rfl ?_
            refine g_get C 7 71 gin7 0 rfl rfl 3 (by decide) mw_5_88 rfl rfl dX7_step_146 ?_
            obtain ⟨r16, hr17, h⟩ := bd_of h
            refine g_callVi C (kX7_peek l Z a0 a0_buffer a0_now a0_made a0_history a0_saved a0_closed a0_faces a0_rankOf a0_placeOf a0_counted a0_steps a0_onto a0_goes a0_firstImage (s7_number (s7_kind (s7_from (s7_at o0 v13.1) v1) x8) v13.2) v13.1 r16 hr17) 0 rfl (ci := 7) rfl rfl myX7_peek 74 mw_5_204 rfl [0, 1] [] [0, 1] (wr := []) rfl rfl (by decide) (by decide) (by decide) [(a0, .inr (7, [.int (q7_thrown o0), .ref a0_buffer, .int (q7_length o0), .int v13.1, .int v1, .int x8, .int v13.2, .int (q7_wrong o0), .ref a0_now, .ref a0_made, .ref a0_history, .ref a0_saved, .int (q7_entries o0), .int (q7_isSaved o0), .ref a0_closed, .ref a0_faces, .ref a0_rankOf, .ref a0_placeOf, .int (q7_faceMany o0), .int (q7_isLaid o0), .ref a0_counted, .ref a0_steps, .ref a0_onto, .ref a0_goes, .int (q7_found o0), .int (q7_images o0), .ref a0_firstImage, .int (q7_gathered o0)])), (a0_buffer, .inl (zI Z, 300, .inl (q7_buffer o0)))] rfl (by decide) (Nat.le_of_ble_eq_true rfl) (by rw [hR]; exact Nat.le_of_ble_eq_true rfl) (by rw [hR]; exact Nat.le_of_ble_eq_true rfl) ⟨by rw [hR]; exact Nat.le_of_ble_eq_true rfl, by rw [hR]; exact Nat.le_of_ble_eq_true rfl⟩ rfl dX7_step_149 ?_
            obtain ⟨r18, hr19, h⟩ := bd_of h
            refine g_callSi C (kX7_isDigit l Z r16 r18 hr19) myX7_isDigit 85 mw_5_211 rfl [] [0, 1] [0, 1] (wr := [(a0, .inr (7, [.int (q7_thrown o0), .ref a0_buffer, .int (q7_length o0), .int v13.1, .int v1, .int x8, .int v13.2, .int (q7_wrong o0), .ref a0_now, .ref a0_made, .ref a0_history, .ref a0_saved, .int (q7_entries o0), .int (q7_isSaved o0), .ref a0_closed, .ref a0_faces, .ref a0_rankOf, .ref a0_placeOf, .int (q7_faceMany o0), .int (q7_isLaid o0), .ref a0_counted, .ref a0_steps, .ref a0_onto, .ref a0_goes, .int (q7_found o0), .int (q7_images o0), .ref a0_firstImage, .int (q7_gathered o0)])), (a0_buffer, .inl (zI Z, 300, .inl (q7_buffer o0)))]) rfl rfl (by decide) (by decide) (by decide) [(a0, .inr (7, [.int (q7_thrown o0), .ref a0_buffer, .int (q7_length o0), .int v13.1, .int v1, .int x8, .int v13.2, .int (q7_wrong o0), .ref a0_now, .ref a0_made, .ref a0_history, .ref a0_saved, .int (q7_entries o0), .int (q7_isSaved o0), .ref a0_closed, .ref a0_faces, .ref a0_rankOf, .ref a0_placeOf, .int (q7_faceMany o0), .int (q7_isLaid o0), .ref a0_counted, .ref a0_steps, .ref a0_onto, .ref a0_goes, .int (q7_found o0), .int (q7_images o0), .ref a0_firstImage, .int (q7_gathered o0)])), (a0_buffer, .inl (zI Z, 300, .inl (q7_buffer o0)))] rfl (by decide) (Nat.le_of_ble_eq_true rfl) (by rw [hR]; exact Nat.le_of_ble_eq_true rfl) (by rw [hR]; exact Nat.le_of_ble_eq_true rfl) ⟨by rw [hR]; exact Nat.le_of_ble_eq_true rfl, by rw [hR]; exact Nat.le_of_ble_eq_true rfl⟩ rfl dX7_step_152 ?_
            refine g_if_eq C 199 dX7_step_155 (by decide) (fun c20 => ?_) (fun c20 => ?_)
            · replace h := it_t c20 h
              obtain ⟨r21, h, hy⟩ := ex_of h
              rw [hx1 r21 hy] at h
              obtain rfl := Option.some.inj h
              subst hQ
              exact g_vret C hr hlk dX7_step_199 [0, 1] rfl (by decide)
            · replace h := it_f c20 h
              refine g_aload_n C dX7_step_158 rfl 0 rfl ?_
              refine g_ldc C 94 mw_5_214 dX7_step_159 ?_
              refine g_bipush C 10 dX7_step_161 (by decide) ?_
              refine g_aload_n C dX7_step_163 rfl 0 rfl ?_
              refine g_get C 7 91 gin7 0 rfl rfl 6 (by decide) mw_5_91 rfl rfl dX7_step_164 ?_
              refine g_imul C dX7_step_167 ?_
              refine g_aload_n C dX7_step_168 rfl 0 rfl ?_
              refine g_aload_n C dX7_step_169 rfl 0 rfl ?_
              refine g_get C 7 71 gin7 0 rfl rfl 3 (by decide) mw_5_88 rfl rfl dX7_step_170 ?_
              obtain ⟨r22, hr23, h⟩ := bd_of h
              refine g_callVi C (kX7_peek l Z a0 a0_buffer a0_now a0_made a0_history a0_saved a0_closed a0_faces a0_rankOf a0_placeOf a0_counted a0_steps a0_onto a0_goes a0_firstImage (s7_number (s7_kind (s7_from (s7_at o0 v13.1) v1) x8) v13.2) v13.1 r22 hr23) 0 rfl (ci := 7) rfl rfl myX7_peek 74 mw_5_204 rfl [0, 1] [] [0, 1] (wr := []) rfl rfl (by decide) (by decide) (by decide) [(a0, .inr (7, [.int (q7_thrown o0), .ref a0_buffer, .int (q7_length o0), .int v13.1, .int v1, .int x8, .int v13.2, .int (q7_wrong o0), .ref a0_now, .ref a0_made, .ref a0_history, .ref a0_saved, .int (q7_entries o0), .int (q7_isSaved o0), .ref a0_closed, .ref a0_faces, .ref a0_rankOf, .ref a0_placeOf, .int (q7_faceMany o0), .int (q7_isLaid o0), .ref a0_counted, .ref a0_steps, .ref a0_onto, .ref a0_goes, .int (q7_found o0), .int (q7_images o0), .ref a0_firstImage, .int (q7_gathered o0)])), (a0_buffer, .inl (zI Z, 300, .inl (q7_buffer o0)))] rfl (by decide) (Nat.le_of_ble_eq_true rfl) (by rw [hR]; exact Nat.le_of_ble_eq_true rfl) (by rw [hR]; exact Nat.le_of_ble_eq_true rfl) ⟨by rw [hR]; exact Nat.le_of_ble_eq_true rfl, by rw [hR]; exact Nat.le_of_ble_eq_true rfl⟩ rfl dX7_step_173 ?_
              refine g_iadd C dX7_step_176 ?_
              refine g_bipush C 48 dX7_step_177 (by decide) ?_
              refine g_isub C dX7_step_179 ?_
              refine g_mmin C 95 mw_5_215 mw_5_216 mw_1_8 mw_5_217 (by rw [hR]; exact Nat.le_of_ble_eq_true rfl) (by rw [hR]; exact Nat.le_of_ble_eq_true rfl) ⟨by rw [hR]; exact Nat.le_of_ble_eq_true rfl, by rw [hR]; exact Nat.le_of_ble_eq_true rfl⟩ dX7_step_180 ?_
              refine g_put C 7 91 gin7 tyX7 tyX7_ok nmX7 0 rfl rfl 6 (by decide) mw_5_91 rfl rfl (ty := .int) (by decide +kernel) rfl rfl (Nat.le_of_ble_eq_true rfl) [(a0, .inr (7, [.int (q7_thrown o0), .ref a0_buffer, .int (q7_length o0), .int v13.1, .int v1, .int x8, .int (jmin 100000 (((10 * v13.2) + r22) - 48)), .int (q7_wrong o0), .ref a0_now, .ref a0_made, .ref a0_history, .ref a0_saved, .int (q7_entries o0), .int (q7_isSaved o0), .ref a0_closed, .ref a0_faces, .ref a0_rankOf, .ref a0_placeOf, .int (q7_faceMany o0), .int (q7_isLaid o0), .ref a0_counted, .ref a0_steps, .ref a0_onto, .ref a0_goes, .int (q7_found o0), .int (q7_images o0), .ref a0_firstImage, .int (q7_gathered o0)])), (a0_buffer, .inl (zI Z, 300, .inl (q7_buffer o0)))] rfl dX7_step_183 ?_
              refine g_aload_n C dX7_step_186 rfl 0 rfl ?_
              refine g_dup C dX7_step_187 rfl ?_
              refine g_get C 7 71 gin7 0 rfl rfl 3 (by decide) mw_5_88 rfl rfl dX7_step_188 ?_
              refine g_iconst C 1 dX7_step_191 (by decide) ?_
              refine g_iadd C dX7_step_192 ?_
              refine g_put C 7 71 gin7 tyX7 tyX7_ok nmX7 0 rfl rfl 3 (by decide) mw_5_88 rfl rfl (ty := .int) (by decide +kernel) rfl rfl (Nat.le_of_ble_eq_true rfl) [(a0, .inr (7, [.int (q7_thrown o0), .ref a0_buffer, .int (q7_length o0), .int (v13.1 + 1), .int v1, .int x8, .int (jmin 100000 (((10 * v13.2) + r22) - 48)), .int (q7_wrong o0), .ref a0_now, .ref a0_made, .ref a0_history, .ref a0_saved, .int (q7_entries o0), .int (q7_isSaved o0), .ref a0_closed, .ref a0_faces, .ref a0_rankOf, .ref a0_placeOf, .int (q7_faceMany o0), .int (q7_isLaid o0), .ref a0_counted, .ref a0_steps, .ref a0_onto, .ref a0_goes, .int (q7_found o0), .int (q7_images o0), .ref a0_firstImage, .int (q7_gathered o0)])), (a0_buffer, .inl (zI Z, 300, .inl (q7_buffer o0)))] rfl dX7_step_193 ?_
              refine g_goto C 136 dX7_step_196 (by decide) ?_
              exact hk1 ((v13.1 + 1), (jmin 100000 (((10 * v13.2) + r22) - 48))) (Option.some.inj h).symm
        · replace h := it_t c11 h
          refine g_aload_n C dX7_step_109 rfl 0 rfl ?_
          refine g_aload_n C dX7_step_110 rfl 0 rfl ?_
          refine g_get C 7 71 gin7 0 rfl rfl 3 (by decide) mw_5_88 rfl rfl dX7_step_111 ?_
          obtain ⟨r24, hr25, h⟩ := bd_of h
          refine g_callVi C (kX7_peek l Z a0 a0_buffer a0_now a0_made a0_history a0_saved a0_closed a0_faces a0_rankOf a0_placeOf a0_counted a0_steps a0_onto a0_goes a0_firstImage (s7_number (s7_kind (s7_from (s7_at o0 v10) v1) x8) 0) v10 r24 hr25) 0 rfl (ci := 7) rfl rfl myX7_peek 74 mw_5_204 rfl [0, 1] [] [0, 1] (wr := []) rfl rfl (by decide) (by decide) (by decide) [(a0, .inr (7, [.int (q7_thrown o0), .ref a0_buffer, .int (q7_length o0), .int v10, .int v1, .int x8, .int 0, .int (q7_wrong o0), .ref a0_now, .ref a0_made, .ref a0_history, .ref a0_saved, .int (q7_entries o0), .int (q7_isSaved o0), .ref a0_closed, .ref a0_faces, .ref a0_rankOf, .ref a0_placeOf, .int (q7_faceMany o0), .int (q7_isLaid o0), .ref a0_counted, .ref a0_steps, .ref a0_onto, .ref a0_goes, .int (q7_found o0), .int (q7_images o0), .ref a0_firstImage, .int (q7_gathered o0)])), (a0_buffer, .inl (zI Z, 300, .inl (q7_buffer o0)))] rfl (by decide) (Nat.le_of_ble_eq_true rfl) (by rw [hR]; exact Nat.le_of_ble_eq_true rfl) (by rw [hR]; exact Nat.le_of_ble_eq_true rfl) ⟨by rw [hR]; exact Nat.le_of_ble_eq_true rfl, by rw [hR]; exact Nat.le_of_ble_eq_true rfl⟩ rfl dX7_step_114 ?_
          obtain ⟨r26, hr27, h⟩ := bd_of h
          refine g_callSi C (kX7_isLetter l Z r24 r26 hr27) myX7_isLetter 81 mw_5_208 rfl [] [0, 1] [0, 1] (wr := [(a0, .inr (7, [.int (q7_thrown o0), .ref a0_buffer, .int (q7_length o0), .int v10, .int v1, .int x8, .int 0, .int (q7_wrong o0), .ref a0_now, .ref a0_made, .ref a0_history, .ref a0_saved, .int (q7_entries o0), .int (q7_isSaved o0), .ref a0_closed, .ref a0_faces, .ref a0_rankOf, .ref a0_placeOf, .int (q7_faceMany o0), .int (q7_isLaid o0), .ref a0_counted, .ref a0_steps, .ref a0_onto, .ref a0_goes, .int (q7_found o0), .int (q7_images o0), .ref a0_firstImage, .int (q7_gathered o0)])), (a0_buffer, .inl (zI Z, 300, .inl (q7_buffer o0)))]) rfl rfl (by decide) (by decide) (by decide) [(a0, .inr (7, [.int (q7_thrown o0), .ref a0_buffer, .int (q7_length o0), .int v10, .int v1, .int x8, .int 0, .int (q7_wrong o0), .ref a0_now, .ref a0_made, .ref a0_history, .ref a0_saved, .int (q7_entries o0), .int (q7_isSaved o0), .ref a0_closed, .ref a0_faces, .ref a0_rankOf, .ref a0_placeOf, .int (q7_faceMany o0), .int (q7_isLaid o0), .ref a0_counted, .ref a0_steps, .ref a0_onto, .ref a0_goes, .int (q7_found o0), .int (q7_images o0), .ref a0_firstImage, .int (q7_gathered o0)])), (a0_buffer, .inl (zI Z, 300, .inl (q7_buffer o0)))] rfl (by decide) (Nat.le_of_ble_eq_true rfl) (by rw [hR]; exact Nat.le_of_ble_eq_true rfl) (by rw [hR]; exact Nat.le_of_ble_eq_true rfl) ⟨by rw [hR]; exact Nat.le_of_ble_eq_true rfl, by rw [hR]; exact Nat.le_of_ble_eq_true rfl⟩ rfl dX7_step_117 ?_
          refine g_if_eq C 136 dX7_step_120 (by decide) (fun c28 => ?_) (fun c28 => ?_)
          · replace h := it_t c28 h
            obtain ⟨r29, h, hy⟩ := ex_of h
            rw [hx1 r29 hy] at h
            refine g_loop (lvf := fun v30 => [(0, .ref a0)]) (wsf := fun v30 => [(a0, .inr (7, [.int (q7_thrown o0), .ref a0_buffer, .int (q7_length o0), .int v30.1, .int v1, .int x8, .int v30.2, .int (q7_wrong o0), .ref a0_now, .ref a0_made, .ref a0_history, .ref a0_saved, .int (q7_entries o0), .int (q7_isSaved o0), .ref a0_closed, .ref a0_faces, .ref a0_rankOf, .ref a0_placeOf, .int (q7_faceMany o0), .int (q7_isLaid o0), .ref a0_counted, .ref a0_steps, .ref a0_onto, .ref a0_goes, .int (q7_found o0), .int (q7_images o0), .ref a0_firstImage, .int (q7_gathered o0)])), (a0_buffer, .inl (zI Z, 300, .inl (q7_buffer o0)))]) h (fun v30 y1 h hk1 hx1 => ?_)
            refine g_eq (lv1 := [(0, .ref a0)]) (st1 := []) (ws1 := [(a0, .inr (7, [.int (q7_thrown o0), .ref a0_buffer, .int (q7_length o0), .int v30.1, .int v1, .int x8, .int v30.2, .int (q7_wrong o0), .ref a0_now, .ref a0_made, .ref a0_history, .ref a0_saved, .int (q7_entries o0), .int (q7_isSaved o0), .ref a0_closed, .ref a0_faces, .ref a0_rankOf, .ref a0_placeOf, .int (q7_faceMany o0), .int (q7_isLaid o0), .ref a0_counted, .ref a0_steps, .ref a0_onto, .ref a0_goes, .int (q7_found o0), .int (q7_images o0), .ref a0_firstImage, .int (q7_gathered o0)])), (a0_buffer, .inl (zI Z, 300, .inl (q7_buffer o0)))]) rfl rfl rfl rfl ?_
            unfold fX7_step_L136_2 at h
            refine g_aload_n C dX7_step_136 rfl 0 rfl ?_
            refine g_get C 7 88 gin7 0 rfl rfl 5 (by decide) mw_5_90 rfl rfl dX7_step_137 ?_
            refine g_iconst C 2 dX7_step_140 (by decide) ?_
            refine g_icmp_ne C 199 dX7_step_141 (by decide) (fun c31 => ?_) (fun c31 => ?_)
            · replace h := it_f c31 h
              obtain ⟨r32, h, hy⟩ := ex_of h
              rw [hx1 r32 hy] at h
              obtain rfl := Option.some.inj h
              subst hQ
              exact g_vret C hr hlk dX7_step_199 [0, 1] rfl (by decide)
            · replace h := it_t c31 h
              refine g_aload_n C dX7_step_144 rfl 0 rfl ?_
              refine g_aload_n C dX7_step_145 rfl 0 rfl ?_
              refine g_get C 7 71 gin7 0 rfl rfl 3 (by decide) mw_5_88 rfl rfl dX7_step_146 ?_
              obtain ⟨r33, hr34, h⟩ := bd_of h
              refine g_callVi C (kX7_peek l Z a0 a0_buffer a0_now a0_made a0_history a0_saved a0_closed a0_faces a0_rankOf a0_placeOf a0_counted a0_steps a0_onto a0_goes a0_firstImage (s7_number (s7_kind (s7_from (s7_at o0 v30.1) v1) x8) v30.2) v30.1 r33 hr34) 0 rfl (ci := 7) rfl rfl myX7_peek 74 mw_5_204 rfl [0, 1] [] [0, 1] (wr := []) rfl rfl (by decide) (by decide) (by decide) [(a0, .inr (7, [.int (q7_thrown o0), .ref a0_buffer, .int (q7_length o0), .int v30.1, .int v1, .int x8, .int v30.2, .int (q7_wrong o0), .ref a0_now, .ref a0_made, .ref a0_history, .ref a0_saved, .int (q7_entries o0), .int (q7_isSaved o0), .ref a0_closed, .ref a0_faces, .ref a0_rankOf, .ref a0_placeOf, .int (q7_faceMany o0), .int (q7_isLaid o0), .ref a0_counted, .ref a0_steps, .ref a0_onto, .ref a0_goes, .int (q7_found o0), .int (q7_images o0), .ref a0_firstImage, .int (q7_gathered o0)])), (a0_buffer, .inl (zI Z, 300, .inl (q7_buffer o0)))] rfl (by decide) (Nat.le_of_ble_eq_true rfl) (by rw [hR]; exact Nat.le_of_ble_eq_true rfl) (by rw [hR]; exact Nat.le_of_ble_eq_true rfl) ⟨by rw [hR]; exact Nat.le_of_ble_eq_true rfl, by rw [hR]; exact Nat.le_of_ble_eq_true rfl⟩ rfl dX7_step_149 ?_
              obtain ⟨r35, hr36, h⟩ := bd_of h
              refine g_callSi C (kX7_isDigit l Z r33 r35 hr36) myX7_isDigit 85 mw_5_211 rfl [] [0, 1] [0, 1] (wr := [(a0, .inr (7, [.int (q7_thrown o0), .ref a0_buffer, .int (q7_length o0), .int v30.1, .int v1, .int x8, .int v30.2, .int (q7_wrong o0), .ref a0_now, .ref a0_made, .ref a0_history, .ref a0_saved, .int (q7_entries o0), .int (q7_isSaved o0), .ref a0_closed, .ref a0_faces, .ref a0_rankOf, .ref a0_placeOf, .int (q7_faceMany o0), .int (q7_isLaid o0), .ref a0_counted, .ref a0_steps, .ref a0_onto, .ref a0_goes, .int (q7_found o0), .int (q7_images o0), .ref a0_firstImage, .int (q7_gathered o0)])), (a0_buffer, .inl (zI Z, 300, .inl (q7_buffer o0)))]) rfl rfl (by decide) (by decide) (by decide) [(a0, .inr (7, [.int (q7_thrown o0), .ref a0_buffer, .int (q7_length o0), .int v30.1, .int v1, .int x8, .int v30.2, .int (q7_wrong o0), .ref a0_now, .ref a0_made, .ref a0_history, .ref a0_saved, .int (q7_entries o0), .int (q7_isSaved o0), .ref a0_closed, .ref a0_faces, .ref a0_rankOf, .ref a0_placeOf, .int (q7_faceMany o0), .int (q7_isLaid o0), .ref a0_counted, .ref a0_steps, .ref a0_onto, .ref a0_goes, .int (q7_found o0), .int (q7_images o0), .ref a0_firstImage, .int (q7_gathered o0)])), (a0_buffer, .inl (zI Z, 300, .inl (q7_buffer o0)))] rfl (by decide) (Nat.le_of_ble_eq_true rfl) (by rw [hR]; exact Nat.le_of_ble_eq_true rfl) (by rw [hR]; exact Nat.le_of_ble_eq_true rfl) ⟨by rw [hR]; exact Nat.le_of_ble_eq_true rfl, by rw [hR]; exact Nat.le_of_ble_eq_true rfl⟩ rfl dX7_step_152 ?_
              refine g_if_eq C 199 dX7_step_155 (by decide) (fun c37 => ?_) (fun c37 => ?_)
              · replace h := it_t c37 h
                obtain ⟨r38, h, hy⟩ := ex_of h
                rw [hx1 r38 hy] at h
                obtain rfl := Option.some.inj h
                subst hQ
                exact g_vret C hr hlk dX7_step_199 [0, 1] rfl (by decide)
              · replace h := it_f c37 h
                refine g_aload_n C dX7_step_158 rfl 0 rfl ?_
                refine g_ldc C 94 mw_5_214 dX7_step_159 ?_
                refine g_bipush C 10 dX7_step_161 (by decide) ?_
                refine g_aload_n C dX7_step_163 rfl 0 rfl ?_
                refine g_get C 7 91 gin7 0 rfl rfl 6 (by decide) mw_5_91 rfl rfl dX7_step_164 ?_
                refine g_imul C dX7_step_167 ?_
                refine g_aload_n C dX7_step_168 rfl 0 rfl ?_
                refine g_aload_n C dX7_step_169 rfl 0 rfl ?_
                refine g_get C 7 71 gin7 0 rfl rfl 3 (by decide) mw_5_88 rfl rfl dX7_step_170 ?_
                obtain ⟨r39, hr40, h⟩ := bd_of h
                refine g_callVi C (kX7_peek l Z a0 a0_buffer a0_now a0_made a0_history a0_saved a0_closed a0_faces a0_rankOf a0_placeOf a0_counted a0_steps a0_onto a0_goes a0_firstImage (s7_number (s7_kind (s7_from (s7_at o0 v30.1) v1) x8) v30.2) v30.1 r39 hr40) 0 rfl (ci := 7) rfl rfl myX7_peek 74 mw_5_204 rfl [0, 1] [] [0, 1] (wr := []) rfl rfl (by decide) (by decide) (by decide) [(a0, .inr (7, [.int (q7_thrown o0), .ref a0_buffer, .int (q7_length o0), .int v30.1, .int v1, .int x8, .int v30.2, .int (q7_wrong o0), .ref a0_now, .ref a0_made, .ref a0_history, .ref a0_saved, .int (q7_entries o0), .int (q7_isSaved o0), .ref a0_closed, .ref a0_faces, .ref a0_rankOf, .ref a0_placeOf, .int (q7_faceMany o0), .int (q7_isLaid o0), .ref a0_counted, .ref a0_steps, .ref a0_onto, .ref a0_goes, .int (q7_found o0), .int (q7_images o0), .ref a0_firstImage, .int (q7_gathered o0)])), (a0_buffer, .inl (zI Z, 300, .inl (q7_buffer o0)))] rfl (by decide) (Nat.le_of_ble_eq_true rfl) (by rw [hR]; exact Nat.le_of_ble_eq_true rfl) (by rw [hR]; exact Nat.le_of_ble_eq_true rfl) ⟨by rw [hR]; exact Nat.le_of_ble_eq_true rfl, by rw [hR]; exact Nat.le_of_ble_eq_true rfl⟩ rfl dX7_step_173 ?_
                refine g_iadd C dX7_step_176 ?_
                refine g_bipush C 48 dX7_step_177 (by decide) ?_
                refine g_isub C dX7_step_179 ?_
                refine g_mmin C 95 mw_5_215 mw_5_216 mw_1_8 mw_5_217 (by rw [hR]; exact Nat.le_of_ble_eq_true rfl) (by rw [hR]; exact Nat.le_of_ble_eq_true rfl) ⟨by rw [hR]; exact Nat.le_of_ble_eq_true rfl, by rw [hR]; exact Nat.le_of_ble_eq_true rfl⟩ dX7_step_180 ?_
                refine g_put C 7 91 gin7 tyX7 tyX7_ok nmX7 0 rfl rfl 6 (by decide) mw_5_91 rfl rfl (ty := .int) (by decide +kernel) rfl rfl (Nat.le_of_ble_eq_true rfl) [(a0, .inr (7, [.int (q7_thrown o0), .ref a0_buffer, .int (q7_length o0), .int v30.1, .int v1, .int x8, .int (jmin 100000 (((10 * v30.2) + r39) - 48)), .int (q7_wrong o0), .ref a0_now, .ref a0_made, .ref a0_history, .ref a0_saved, .int (q7_entries o0), .int (q7_isSaved o0), .ref a0_closed, .ref a0_faces, .ref a0_rankOf, .ref a0_placeOf, .int (q7_faceMany o0), .int (q7_isLaid o0), .ref a0_counted, .ref a0_steps, .ref a0_onto, .ref a0_goes, .int (q7_found o0), .int (q7_images o0), .ref a0_firstImage, .int (q7_gathered o0)])), (a0_buffer, .inl (zI Z, 300, .inl (q7_buffer o0)))] rfl dX7_step_183 ?_
                refine g_aload_n C dX7_step_186 rfl 0 rfl ?_
                refine g_dup C dX7_step_187 rfl ?_
                refine g_get C 7 71 gin7 0 rfl rfl 3 (by decide) mw_5_88 rfl rfl dX7_step_188 ?_
                refine g_iconst C 1 dX7_step_191 (by decide) ?_
                refine g_iadd C dX7_step_192 ?_
                refine g_put C 7 71 gin7 tyX7 tyX7_ok nmX7 0 rfl rfl 3 (by decide) mw_5_88 rfl rfl (ty := .int) (by decide +kernel) rfl rfl (Nat.le_of_ble_eq_true rfl) [(a0, .inr (7, [.int (q7_thrown o0), .ref a0_buffer, .int (q7_length o0), .int (v30.1 + 1), .int v1, .int x8, .int (jmin 100000 (((10 * v30.2) + r39) - 48)), .int (q7_wrong o0), .ref a0_now, .ref a0_made, .ref a0_history, .ref a0_saved, .int (q7_entries o0), .int (q7_isSaved o0), .ref a0_closed, .ref a0_faces, .ref a0_rankOf, .ref a0_placeOf, .int (q7_faceMany o0), .int (q7_isLaid o0), .ref a0_counted, .ref a0_steps, .ref a0_onto, .ref a0_goes, .int (q7_found o0), .int (q7_images o0), .ref a0_firstImage, .int (q7_gathered o0)])), (a0_buffer, .inl (zI Z, 300, .inl (q7_buffer o0)))] rfl dX7_step_193 ?_
                refine g_goto C 136 dX7_step_196 (by decide) ?_
                exact hk1 ((v30.1 + 1), (jmin 100000 (((10 * v30.2) + r39) - 48))) (Option.some.inj h).symm
          · replace h := it_f c28 h
            refine g_aload_n C dX7_step_123 rfl 0 rfl ?_
            refine g_dup C dX7_step_124 rfl ?_
            refine g_get C 7 71 gin7 0 rfl rfl 3 (by decide) mw_5_88 rfl rfl dX7_step_125 ?_
            refine g_iconst C 1 dX7_step_128 (by decide) ?_
            refine g_iadd C dX7_step_129 ?_
            refine g_put C 7 71 gin7 tyX7 tyX7_ok nmX7 0 rfl rfl 3 (by decide) mw_5_88 rfl rfl (ty := .int) (by decide +kernel) rfl rfl (Nat.le_of_ble_eq_true rfl) [(a0, .inr (7, [.int (q7_thrown o0), .ref a0_buffer, .int (q7_length o0), .int (v10 + 1), .int v1, .int x8, .int 0, .int (q7_wrong o0), .ref a0_now, .ref a0_made, .ref a0_history, .ref a0_saved, .int (q7_entries o0), .int (q7_isSaved o0), .ref a0_closed, .ref a0_faces, .ref a0_rankOf, .ref a0_placeOf, .int (q7_faceMany o0), .int (q7_isLaid o0), .ref a0_counted, .ref a0_steps, .ref a0_onto, .ref a0_goes, .int (q7_found o0), .int (q7_images o0), .ref a0_firstImage, .int (q7_gathered o0)])), (a0_buffer, .inl (zI Z, 300, .inl (q7_buffer o0)))] rfl dX7_step_130 ?_
            refine g_goto C 101 dX7_step_133 (by decide) ?_
            exact hk1 (v10 + 1) (Option.some.inj h).symm
      · replace h := it_t c9 h
        refine g_aload_n C dX7_step_91 rfl 0 rfl ?_
        refine g_dup C dX7_step_92 rfl ?_
        refine g_get C 7 71 gin7 0 rfl rfl 3 (by decide) mw_5_88 rfl rfl dX7_step_93 ?_
        refine g_iconst C 1 dX7_step_96 (by decide) ?_
        refine g_iadd C dX7_step_97 ?_
        refine g_put C 7 71 gin7 tyX7 tyX7_ok nmX7 0 rfl rfl 3 (by decide) mw_5_88 rfl rfl (ty := .int) (by decide +kernel) rfl rfl (Nat.le_of_ble_eq_true rfl) [(a0, .inr (7, [.int (q7_thrown o0), .ref a0_buffer, .int (q7_length o0), .int (v1 + 1), .int v1, .int x8, .int 0, .int (q7_wrong o0), .ref a0_now, .ref a0_made, .ref a0_history, .ref a0_saved, .int (q7_entries o0), .int (q7_isSaved o0), .ref a0_closed, .ref a0_faces, .ref a0_rankOf, .ref a0_placeOf, .int (q7_faceMany o0), .int (q7_isLaid o0), .ref a0_counted, .ref a0_steps, .ref a0_onto, .ref a0_goes, .int (q7_found o0), .int (q7_images o0), .ref a0_firstImage, .int (q7_gathered o0)])), (a0_buffer, .inl (zI Z, 300, .inl (q7_buffer o0)))] rfl dX7_step_98 ?_
        refine g_loop (lvf := fun v41 => [(0, .ref a0)]) (wsf := fun v41 => [(a0, .inr (7, [.int (q7_thrown o0), .ref a0_buffer, .int (q7_length o0), .int v41, .int v1, .int x8, .int 0, .int (q7_wrong o0), .ref a0_now, .ref a0_made, .ref a0_history, .ref a0_saved, .int (q7_entries o0), .int (q7_isSaved o0), .ref a0_closed, .ref a0_faces, .ref a0_rankOf, .ref a0_placeOf, .int (q7_faceMany o0), .int (q7_isLaid o0), .ref a0_counted, .ref a0_steps, .ref a0_onto, .ref a0_goes, .int (q7_found o0), .int (q7_images o0), .ref a0_firstImage, .int (q7_gathered o0)])), (a0_buffer, .inl (zI Z, 300, .inl (q7_buffer o0)))]) h (fun v41 y1 h hk1 hx1 => ?_)
        refine g_eq (lv1 := [(0, .ref a0)]) (st1 := []) (ws1 := [(a0, .inr (7, [.int (q7_thrown o0), .ref a0_buffer, .int (q7_length o0), .int v41, .int v1, .int x8, .int 0, .int (q7_wrong o0), .ref a0_now, .ref a0_made, .ref a0_history, .ref a0_saved, .int (q7_entries o0), .int (q7_isSaved o0), .ref a0_closed, .ref a0_faces, .ref a0_rankOf, .ref a0_placeOf, .int (q7_faceMany o0), .int (q7_isLaid o0), .ref a0_counted, .ref a0_steps, .ref a0_onto, .ref a0_goes, .int (q7_found o0), .int (q7_images o0), .ref a0_firstImage, .int (q7_gathered o0)])), (a0_buffer, .inl (zI Z, 300, .inl (q7_buffer o0)))]) rfl rfl rfl rfl ?_
        unfold fX7_step_L101_2 at h
        refine g_aload_n C dX7_step_101 rfl 0 rfl ?_
        refine g_get C 7 88 gin7 0 rfl rfl 5 (by decide) mw_5_90 rfl rfl dX7_step_102 ?_
        refine g_iconst C 1 dX7_step_105 (by decide) ?_
        refine g_icmp_ne C 136 dX7_step_106 (by decide) (fun c42 => ?_) (fun c42 => ?_)
        · replace h := it_f c42 h
          obtain ⟨r43, h, hy⟩ := ex_of h
          rw [hx1 r43 hy] at h
          refine g_loop (lvf := fun v44 => [(0, .ref a0)]) (wsf := fun v44 => [(a0, .inr (7, [.int (q7_thrown o0), .ref a0_buffer, .int (q7_length o0), .int v44.1, .int v1, .int x8, .int v44.2, .int (q7_wrong o0), .ref a0_now, .ref a0_made, .ref a0_history, .ref a0_saved, .int (q7_entries o0), .int (q7_isSaved o0), .ref a0_closed, .ref a0_faces, .ref a0_rankOf, .ref a0_placeOf, .int (q7_faceMany o0), .int (q7_isLaid o0), .ref a0_counted, .ref a0_steps, .ref a0_onto, .ref a0_goes, .int (q7_found o0), .int (q7_images o0), .ref a0_firstImage, .int (q7_gathered o0)])), (a0_buffer, .inl (zI Z, 300, .inl (q7_buffer o0)))]) h (fun v44 y1 h hk1 hx1 => ?_)
          refine g_eq (lv1 := [(0, .ref a0)]) (st1 := []) (ws1 := [(a0, .inr (7, [.int (q7_thrown o0), .ref a0_buffer, .int (q7_length o0), .int v44.1, .int v1, .int x8, .int v44.2, .int (q7_wrong o0), .ref a0_now, .ref a0_made, .ref a0_history, .ref a0_saved, .int (q7_entries o0), .int (q7_isSaved o0), .ref a0_closed, .ref a0_faces, .ref a0_rankOf, .ref a0_placeOf, .int (q7_faceMany o0), .int (q7_isLaid o0), .ref a0_counted, .ref a0_steps, .ref a0_onto, .ref a0_goes, .int (q7_found o0), .int (q7_images o0), .ref a0_firstImage, .int (q7_gathered o0)])), (a0_buffer, .inl (zI Z, 300, .inl (q7_buffer o0)))]) rfl rfl rfl rfl ?_
          unfold fX7_step_L136_3 at h
          refine g_aload_n C dX7_step_136 rfl 0 rfl ?_
          refine g_get C 7 88 gin7 0 rfl rfl 5 (by decide) mw_5_90 rfl rfl dX7_step_137 ?_
          refine g_iconst C 2 dX7_step_140 (by decide) ?_
          refine g_icmp_ne C 199 dX7_step_141 (by decide) (fun c45 => ?_) (fun c45 => ?_)
          · replace h := it_f c45 h
            obtain ⟨r46, h, hy⟩ := ex_of h
            rw [hx1 r46 hy] at h
            obtain rfl := Option.some.inj h
            subst hQ
            exact g_vret C hr hlk dX7_step_199 [0, 1] rfl (by decide)
          · replace h := it_t c45 h
            refine g_aload_n C dX7_step_144 rfl 0 rfl ?_
            refine g_aload_n C dX7_step_145 rfl 0 rfl ?_
            refine g_get C 7 71 gin7 0 rfl rfl 3 (by decide) mw_5_88 rfl rfl dX7_step_146 ?_
            obtain ⟨r47, hr48, h⟩ := bd_of h
            refine g_callVi C (kX7_peek l Z a0 a0_buffer a0_now a0_made a0_history a0_saved a0_closed a0_faces a0_rankOf a0_placeOf a0_counted a0_steps a0_onto a0_goes a0_firstImage (s7_number (s7_kind (s7_from (s7_at o0 v44.1) v1) x8) v44.2) v44.1 r47 hr48) 0 rfl (ci := 7) rfl rfl myX7_peek 74 mw_5_204 rfl [0, 1] [] [0, 1] (wr := []) rfl rfl (by decide) (by decide) (by decide) [(a0, .inr (7, [.int (q7_thrown o0), .ref a0_buffer, .int (q7_length o0), .int v44.1, .int v1, .int x8, .int v44.2, .int (q7_wrong o0), .ref a0_now, .ref a0_made, .ref a0_history, .ref a0_saved, .int (q7_entries o0), .int (q7_isSaved o0), .ref a0_closed, .ref a0_faces, .ref a0_rankOf, .ref a0_placeOf, .int (q7_faceMany o0), .int (q7_isLaid o0), .ref a0_counted, .ref a0_steps, .ref a0_onto, .ref a0_goes, .int (q7_found o0), .int (q7_images o0), .ref a0_firstImage, .int (q7_gathered o0)])), (a0_buffer, .inl (zI Z, 300, .inl (q7_buffer o0)))] rfl (by decide) (Nat.le_of_ble_eq_true rfl) (by rw [hR]; exact Nat.le_of_ble_eq_true rfl) (by rw [hR]; exact Nat.le_of_ble_eq_true rfl) ⟨by rw [hR]; exact Nat.le_of_ble_eq_true rfl, by rw [hR]; exact Nat.le_of_ble_eq_true rfl⟩ rfl dX7_step_149 ?_
            obtain ⟨r49, hr50, h⟩ := bd_of h
            refine g_callSi C (kX7_isDigit l Z r47 r49 hr50) myX7_isDigit 85 mw_5_211 rfl [] [0, 1] [0, 1] (wr := [(a0, .inr (7, [.int (q7_thrown o0), .ref a0_buffer, .int (q7_length o0), .int v44.1, .int v1, .int x8, .int v44.2, .int (q7_wrong o0), .ref a0_now, .ref a0_made, .ref a0_history, .ref a0_saved, .int (q7_entries o0), .int (q7_isSaved o0), .ref a0_closed, .ref a0_faces, .ref a0_rankOf, .ref a0_placeOf, .int (q7_faceMany o0), .int (q7_isLaid o0), .ref a0_counted, .ref a0_steps, .ref a0_onto, .ref a0_goes, .int (q7_found o0), .int (q7_images o0), .ref a0_firstImage, .int (q7_gathered o0)])), (a0_buffer, .inl (zI Z, 300, .inl (q7_buffer o0)))]) rfl rfl (by decide) (by decide) (by decide) [(a0, .inr (7, [.int (q7_thrown o0), .ref a0_buffer, .int (q7_length o0), .int v44.1, .int v1, .int x8, .int v44.2, .int (q7_wrong o0), .ref a0_now, .ref a0_made, .ref a0_history, .ref a0_saved, .int (q7_entries o0), .int (q7_isSaved o0), .ref a0_closed, .ref a0_faces, .ref a0_rankOf, .ref a0_placeOf, .int (q7_faceMany o0), .int (q7_isLaid o0), .ref a0_counted, .ref a0_steps, .ref a0_onto, .ref a0_goes, .int (q7_found o0), .int (q7_images o0), .ref a0_firstImage, .int (q7_gathered o0)])), (a0_buffer, .inl (zI Z, 300, .inl (q7_buffer o0)))] rfl (by decide) (Nat.le_of_ble_eq_true rfl) (by rw [hR]; exact Nat.le_of_ble_eq_true rfl) (by rw [hR]; exact Nat.le_of_ble_eq_true rfl) ⟨by rw [hR]; exact Nat.le_of_ble_eq_true rfl, by rw [hR]; exact Nat.le_of_ble_eq_true rfl⟩ rfl dX7_step_152 ?_
            refine g_if_eq C 199 dX7_step_155 (by decide) (fun c51 => ?_) (fun c51 => ?_)
            · replace h := it_t c51 h
              obtain ⟨r52, h, hy⟩ := ex_of h
              rw [hx1 r52 hy] at h
              obtain rfl := Option.some.inj h
              subst hQ
              exact g_vret C hr hlk dX7_step_199 [0, 1] rfl (by decide)
            · replace h := it_f c51 h
              refine g_aload_n C dX7_step_158 rfl 0 rfl ?_
              refine g_ldc C 94 mw_5_214 dX7_step_159 ?_
              refine g_bipush C 10 dX7_step_161 (by decide) ?_
              refine g_aload_n C dX7_step_163 rfl 0 rfl ?_
              refine g_get C 7 91 gin7 0 rfl rfl 6 (by decide) mw_5_91 rfl rfl dX7_step_164 ?_
              refine g_imul C dX7_step_167 ?_
              refine g_aload_n C dX7_step_168 rfl 0 rfl ?_
              refine g_aload_n C dX7_step_169 rfl 0 rfl ?_
              refine g_get C 7 71 gin7 0 rfl rfl 3 (by decide) mw_5_88 rfl rfl dX7_step_170 ?_
              obtain ⟨r53, hr54, h⟩ := bd_of h
              refine g_callVi C (kX7_peek l Z a0 a0_buffer a0_now a0_made a0_history a0_saved a0_closed a0_faces a0_rankOf a0_placeOf a0_counted a0_steps a0_onto a0_goes a0_firstImage (s7_number (s7_kind (s7_from (s7_at o0 v44.1) v1) x8) v44.2) v44.1 r53 hr54) 0 rfl (ci := 7) rfl rfl myX7_peek 74 mw_5_204 rfl [0, 1] [] [0, 1] (wr := []) rfl rfl (by decide) (by decide) (by decide) [(a0, .inr (7, [.int (q7_thrown o0), .ref a0_buffer, .int (q7_length o0), .int v44.1, .int v1, .int x8, .int v44.2, .int (q7_wrong o0), .ref a0_now, .ref a0_made, .ref a0_history, .ref a0_saved, .int (q7_entries o0), .int (q7_isSaved o0), .ref a0_closed, .ref a0_faces, .ref a0_rankOf, .ref a0_placeOf, .int (q7_faceMany o0), .int (q7_isLaid o0), .ref a0_counted, .ref a0_steps, .ref a0_onto, .ref a0_goes, .int (q7_found o0), .int (q7_images o0), .ref a0_firstImage, .int (q7_gathered o0)])), (a0_buffer, .inl (zI Z, 300, .inl (q7_buffer o0)))] rfl (by decide) (Nat.le_of_ble_eq_true rfl) (by rw [hR]; exact Nat.le_of_ble_eq_true rfl) (by rw [hR]; exact Nat.le_of_ble_eq_true rfl) ⟨by rw [hR]; exact Nat.le_of_ble_eq_true rfl, by rw [hR]; exact Nat.le_of_ble_eq_true rfl⟩ rfl dX7_step_173 ?_
              refine g_iadd C dX7_step_176 ?_
              refine g_bipush C 48 dX7_step_177 (by decide) ?_
              refine g_isub C dX7_step_179 ?_
              refine g_mmin C 95 mw_5_215 mw_5_216 mw_1_8 mw_5_217 (by rw [hR]; exact Nat.le_of_ble_eq_true rfl) (by rw [hR]; exact Nat.le_of_ble_eq_true rfl) ⟨by rw [hR]; exact Nat.le_of_ble_eq_true rfl, by rw [hR]; exact Nat.le_of_ble_eq_true rfl⟩ dX7_step_180 ?_
              refine g_put C 7 91 gin7 tyX7 tyX7_ok nmX7 0 rfl rfl 6 (by decide) mw_5_91 rfl rfl (ty := .int) (by decide +kernel) rfl rfl (Nat.le_of_ble_eq_true rfl) [(a0, .inr (7, [.int (q7_thrown o0), .ref a0_buffer, .int (q7_length o0), .int v44.1, .int v1, .int x8, .int (jmin 100000 (((10 * v44.2) + r53) - 48)), .int (q7_wrong o0), .ref a0_now, .ref a0_made, .ref a0_history, .ref a0_saved, .int (q7_entries o0), .int (q7_isSaved o0), .ref a0_closed, .ref a0_faces, .ref a0_rankOf, .ref a0_placeOf, .int (q7_faceMany o0), .int (q7_isLaid o0), .ref a0_counted, .ref a0_steps, .ref a0_onto, .ref a0_goes, .int (q7_found o0), .int (q7_images o0), .ref a0_firstImage, .int (q7_gathered o0)])), (a0_buffer, .inl (zI Z, 300, .inl (q7_buffer o0)))] rfl dX7_step_183 ?_
              refine g_aload_n C dX7_step_186 rfl 0 rfl ?_
              refine g_dup C dX7_step_187 rfl ?_
              refine g_get C 7 71 gin7 0 rfl rfl 3 (by decide) mw_5_88 rfl rfl dX7_step_188 ?_
              refine g_iconst C 1 dX7_step_191 (by decide) ?_
              refine g_iadd C dX7_step_192 ?_
              refine g_put C 7 71 gin7 tyX7 tyX7_ok nmX7 0 rfl rfl 3 (by decide) mw_5_88 rfl rfl (ty := .int) (by decide +kernel) rfl rfl (Nat.le_of_ble_eq_true rfl) [(a0, .inr (7, [.int (q7_thrown o0), .ref a0_buffer, .int (q7_length o0), .int (v44.1 + 1), .int v1, .int x8, .int (jmin 100000 (((10 * v44.2) + r53) - 48)), .int (q7_wrong o0), .ref a0_now, .ref a0_made, .ref a0_history, .ref a0_saved, .int (q7_entries o0), .int (q7_isSaved o0), .ref a0_closed, .ref a0_faces, .ref a0_rankOf, .ref a0_placeOf, .int (q7_faceMany o0), .int (q7_isLaid o0), .ref a0_counted, .ref a0_steps, .ref a0_onto, .ref a0_goes, .int (q7_found o0), .int (q7_images o0), .ref a0_firstImage, .int (q7_gathered o0)])), (a0_buffer, .inl (zI Z, 300, .inl (q7_buffer o0)))] rfl dX7_step_193 ?_
              refine g_goto C 136 dX7_step_196 (by decide) ?_
              exact hk1 ((v44.1 + 1), (jmin 100000 (((10 * v44.2) + r53) - 48))) (Option.some.inj h).symm
        · replace h := it_t c42 h
          refine g_aload_n C dX7_step_109 rfl 0 rfl ?_
          refine g_aload_n C dX7_step_110 rfl 0 rfl ?_
          refine g_get C 7 71 gin7 0 rfl rfl 3 (by decide) mw_5_88 rfl rfl dX7_step_111 ?_
          obtain ⟨r55, hr56, h⟩ := bd_of h
          refine g_callVi C (kX7_peek l Z a0 a0_buffer a0_now a0_made a0_history a0_saved a0_closed a0_faces a0_rankOf a0_placeOf a0_counted a0_steps a0_onto a0_goes a0_firstImage (s7_number (s7_kind (s7_from (s7_at o0 v41) v1) x8) 0) v41 r55 hr56) 0 rfl (ci := 7) rfl rfl myX7_peek 74 mw_5_204 rfl [0, 1] [] [0, 1] (wr := []) rfl rfl (by decide) (by decide) (by decide) [(a0, .inr (7, [.int (q7_thrown o0), .ref a0_buffer, .int (q7_length o0), .int v41, .int v1, .int x8, .int 0, .int (q7_wrong o0), .ref a0_now, .ref a0_made, .ref a0_history, .ref a0_saved, .int (q7_entries o0), .int (q7_isSaved o0), .ref a0_closed, .ref a0_faces, .ref a0_rankOf, .ref a0_placeOf, .int (q7_faceMany o0), .int (q7_isLaid o0), .ref a0_counted, .ref a0_steps, .ref a0_onto, .ref a0_goes, .int (q7_found o0), .int (q7_images o0), .ref a0_firstImage, .int (q7_gathered o0)])), (a0_buffer, .inl (zI Z, 300, .inl (q7_buffer o0)))] rfl (by decide) (Nat.le_of_ble_eq_true rfl) (by rw [hR]; exact Nat.le_of_ble_eq_true rfl) (by rw [hR]; exact Nat.le_of_ble_eq_true rfl) ⟨by rw [hR]; exact Nat.le_of_ble_eq_true rfl, by rw [hR]; exact Nat.le_of_ble_eq_true rfl⟩ rfl dX7_step_114 ?_
          obtain ⟨r57, hr58, h⟩ := bd_of h
          refine g_callSi C (kX7_isLetter l Z r55 r57 hr58) myX7_isLetter 81 mw_5_208 rfl [] [0, 1] [0, 1] (wr := [(a0, .inr (7, [.int (q7_thrown o0), .ref a0_buffer, .int (q7_length o0), .int v41, .int v1, .int x8, .int 0, .int (q7_wrong o0), .ref a0_now, .ref a0_made, .ref a0_history, .ref a0_saved, .int (q7_entries o0), .int (q7_isSaved o0), .ref a0_closed, .ref a0_faces, .ref a0_rankOf, .ref a0_placeOf, .int (q7_faceMany o0), .int (q7_isLaid o0), .ref a0_counted, .ref a0_steps, .ref a0_onto, .ref a0_goes, .int (q7_found o0), .int (q7_images o0), .ref a0_firstImage, .int (q7_gathered o0)])), (a0_buffer, .inl (zI Z, 300, .inl (q7_buffer o0)))]) rfl rfl (by decide) (by decide) (by decide) [(a0, .inr (7, [.int (q7_thrown o0), .ref a0_buffer, .int (q7_length o0), .int v41, .int v1, .int x8, .int 0, .int (q7_wrong o0), .ref a0_now, .ref a0_made, .ref a0_history, .ref a0_saved, .int (q7_entries o0), .int (q7_isSaved o0), .ref a0_closed, .ref a0_faces, .ref a0_rankOf, .ref a0_placeOf, .int (q7_faceMany o0), .int (q7_isLaid o0), .ref a0_counted, .ref a0_steps, .ref a0_onto, .ref a0_goes, .int (q7_found o0), .int (q7_images o0), .ref a0_firstImage, .int (q7_gathered o0)])), (a0_buffer, .inl (zI Z, 300, .inl (q7_buffer o0)))] rfl (by decide) (Nat.le_of_ble_eq_true rfl) (by rw [hR]; exact Nat.le_of_ble_eq_true rfl) (by rw [hR]; exact Nat.le_of_ble_eq_true rfl) ⟨by rw [hR]; exact Nat.le_of_ble_eq_true rfl, by rw [hR]; exact Nat.le_of_ble_eq_true rfl⟩ rfl dX7_step_117 ?_
          refine g_if_eq C 136 dX7_step_120 (by decide) (fun c59 => ?_) (fun c59 => ?_)
          · replace h := it_t c59 h
            obtain ⟨r60, h, hy⟩ := ex_of h
            rw [hx1 r60 hy] at h
            refine g_loop (lvf := fun v61 => [(0, .ref a0)]) (wsf := fun v61 => [(a0, .inr (7, [.int (q7_thrown o0), .ref a0_buffer, .int (q7_length o0), .int v61.1, .int v1, .int x8, .int v61.2, .int (q7_wrong o0), .ref a0_now, .ref a0_made, .ref a0_history, .ref a0_saved, .int (q7_entries o0), .int (q7_isSaved o0), .ref a0_closed, .ref a0_faces, .ref a0_rankOf, .ref a0_placeOf, .int (q7_faceMany o0), .int (q7_isLaid o0), .ref a0_counted, .ref a0_steps, .ref a0_onto, .ref a0_goes, .int (q7_found o0), .int (q7_images o0), .ref a0_firstImage, .int (q7_gathered o0)])), (a0_buffer, .inl (zI Z, 300, .inl (q7_buffer o0)))]) h (fun v61 y1 h hk1 hx1 => ?_)
            refine g_eq (lv1 := [(0, .ref a0)]) (st1 := []) (ws1 := [(a0, .inr (7, [.int (q7_thrown o0), .ref a0_buffer, .int (q7_length o0), .int v61.1, .int v1, .int x8, .int v61.2, .int (q7_wrong o0), .ref a0_now, .ref a0_made, .ref a0_history, .ref a0_saved, .int (q7_entries o0), .int (q7_isSaved o0), .ref a0_closed, .ref a0_faces, .ref a0_rankOf, .ref a0_placeOf, .int (q7_faceMany o0), .int (q7_isLaid o0), .ref a0_counted, .ref a0_steps, .ref a0_onto, .ref a0_goes, .int (q7_found o0), .int (q7_images o0), .ref a0_firstImage, .int (q7_gathered o0)])), (a0_buffer, .inl (zI Z, 300, .inl (q7_buffer o0)))]) rfl rfl rfl rfl ?_
            unfold fX7_step_L136_4 at h
            refine g_aload_n C dX7_step_136 rfl 0 rfl ?_
            refine g_get C 7 88 gin7 0 rfl rfl 5 (by decide) mw_5_90 rfl rfl dX7_step_137 ?_
            refine g_iconst C 2 dX7_step_140 (by decide) ?_
            refine g_icmp_ne C 199 dX7_step_141 (by decide) (fun c62 => ?_) (fun c62 => ?_)
            · replace h := it_f c62 h
              obtain ⟨r63, h, hy⟩ := ex_of h
              rw [hx1 r63 hy] at h
              obtain rfl := Option.some.inj h
              subst hQ
              exact g_vret C hr hlk dX7_step_199 [0, 1] rfl (by decide)
            · replace h := it_t c62 h
              refine g_aload_n C dX7_step_144 rfl 0 rfl ?_
              refine g_aload_n C dX7_step_145 rfl 0 rfl ?_
              refine g_get C 7 71 gin7 0 rfl rfl 3 (by decide) mw_5_88 rfl rfl dX7_step_146 ?_
              obtain ⟨r64, hr65, h⟩ := bd_of h
              refine g_callVi C (kX7_peek l Z a0 a0_buffer a0_now a0_made a0_history a0_saved a0_closed a0_faces a0_rankOf a0_placeOf a0_counted a0_steps a0_onto a0_goes a0_firstImage (s7_number (s7_kind (s7_from (s7_at o0 v61.1) v1) x8) v61.2) v61.1 r64 hr65) 0 rfl (ci := 7) rfl rfl myX7_peek 74 mw_5_204 rfl [0, 1] [] [0, 1] (wr := []) rfl rfl (by decide) (by decide) (by decide) [(a0, .inr (7, [.int (q7_thrown o0), .ref a0_buffer, .int (q7_length o0), .int v61.1, .int v1, .int x8, .int v61.2, .int (q7_wrong o0), .ref a0_now, .ref a0_made, .ref a0_history, .ref a0_saved, .int (q7_entries o0), .int (q7_isSaved o0), .ref a0_closed, .ref a0_faces, .ref a0_rankOf, .ref a0_placeOf, .int (q7_faceMany o0), .int (q7_isLaid o0), .ref a0_counted, .ref a0_steps, .ref a0_onto, .ref a0_goes, .int (q7_found o0), .int (q7_images o0), .ref a0_firstImage, .int (q7_gathered o0)])), (a0_buffer, .inl (zI Z, 300, .inl (q7_buffer o0)))] rfl (by decide) (Nat.le_of_ble_eq_true rfl) (by rw [hR]; exact Nat.le_of_ble_eq_true rfl) (by rw [hR]; exact Nat.le_of_ble_eq_true rfl) ⟨by rw [hR]; exact Nat.le_of_ble_eq_true rfl, by rw [hR]; exact Nat.le_of_ble_eq_true rfl⟩ rfl dX7_step_149 ?_
              obtain ⟨r66, hr67, h⟩ := bd_of h
              refine g_callSi C (kX7_isDigit l Z r64 r66 hr67) myX7_isDigit 85 mw_5_211 rfl [] [0, 1] [0, 1] (wr := [(a0, .inr (7, [.int (q7_thrown o0), .ref a0_buffer, .int (q7_length o0), .int v61.1, .int v1, .int x8, .int v61.2, .int (q7_wrong o0), .ref a0_now, .ref a0_made, .ref a0_history, .ref a0_saved, .int (q7_entries o0), .int (q7_isSaved o0), .ref a0_closed, .ref a0_faces, .ref a0_rankOf, .ref a0_placeOf, .int (q7_faceMany o0), .int (q7_isLaid o0), .ref a0_counted, .ref a0_steps, .ref a0_onto, .ref a0_goes, .int (q7_found o0), .int (q7_images o0), .ref a0_firstImage, .int (q7_gathered o0)])), (a0_buffer, .inl (zI Z, 300, .inl (q7_buffer o0)))]) rfl rfl (by decide) (by decide) (by decide) [(a0, .inr (7, [.int (q7_thrown o0), .ref a0_buffer, .int (q7_length o0), .int v61.1, .int v1, .int x8, .int v61.2, .int (q7_wrong o0), .ref a0_now, .ref a0_made, .ref a0_history, .ref a0_saved, .int (q7_entries o0), .int (q7_isSaved o0), .ref a0_closed, .ref a0_faces, .ref a0_rankOf, .ref a0_placeOf, .int (q7_faceMany o0), .int (q7_isLaid o0), .ref a0_counted, .ref a0_steps, .ref a0_onto, .ref a0_goes, .int (q7_found o0), .int (q7_images o0), .ref a0_firstImage, .int (q7_gathered o0)])), (a0_buffer, .inl (zI Z, 300, .inl (q7_buffer o0)))] rfl (by decide) (Nat.le_of_ble_eq_true rfl) (by rw [hR]; exact Nat.le_of_ble_eq_true rfl) (by rw [hR]; exact Nat.le_of_ble_eq_true rfl) ⟨by rw [hR]; exact Nat.le_of_ble_eq_true rfl, by rw [hR]; exact Nat.le_of_ble_eq_true rfl⟩ rfl dX7_step_152 ?_
              refine g_if_eq C 199 dX7_step_155 (by decide) (fun c68 => ?_) (fun c68 => ?_)
              · replace h := it_t c68 h
                obtain ⟨r69, h, hy⟩ := ex_of h
                rw [hx1 r69 hy] at h
                obtain rfl := Option.some.inj h
                subst hQ
                exact g_vret C hr hlk dX7_step_199 [0, 1] rfl (by decide)
              · replace h := it_f c68 h
                refine g_aload_n C dX7_step_158 rfl 0 rfl ?_
                refine g_ldc C 94 mw_5_214 dX7_step_159 ?_
                refine g_bipush C 10 dX7_step_161 (by decide) ?_
                refine g_aload_n C dX7_step_163 rfl 0 rfl ?_
                refine g_get C 7 91 gin7 0 rfl rfl 6 (by decide) mw_5_91 rfl rfl dX7_step_164 ?_
                refine g_imul C dX7_step_167 ?_
                refine g_aload_n C dX7_step_168 rfl 0 rfl ?_
                refine g_aload_n C dX7_step_169 rfl 0 rfl ?_
                refine g_get C 7 71 gin7 0 rfl rfl 3 (by decide) mw_5_88 rfl rfl dX7_step_170 ?_
                obtain ⟨r70, hr71, h⟩ := bd_of h
                refine g_callVi C (kX7_peek l Z a0 a0_buffer a0_now a0_made a0_history a0_saved a0_closed a0_faces a0_rankOf a0_placeOf a0_counted a0_steps a0_onto a0_goes a0_firstImage (s7_number (s7_kind (s7_from (s7_at o0 v61.1) v1) x8) v61.2) v61.1 r70 hr71) 0 rfl (ci := 7) rfl rfl myX7_peek 74 mw_5_204 rfl [0, 1] [] [0, 1] (wr := []) rfl rfl (by decide) (by decide) (by decide) [(a0, .inr (7, [.int (q7_thrown o0), .ref a0_buffer, .int (q7_length o0), .int v61.1, .int v1, .int x8, .int v61.2, .int (q7_wrong o0), .ref a0_now, .ref a0_made, .ref a0_history, .ref a0_saved, .int (q7_entries o0), .int (q7_isSaved o0), .ref a0_closed, .ref a0_faces, .ref a0_rankOf, .ref a0_placeOf, .int (q7_faceMany o0), .int (q7_isLaid o0), .ref a0_counted, .ref a0_steps, .ref a0_onto, .ref a0_goes, .int (q7_found o0), .int (q7_images o0), .ref a0_firstImage, .int (q7_gathered o0)])), (a0_buffer, .inl (zI Z, 300, .inl (q7_buffer o0)))] rfl (by decide) (Nat.le_of_ble_eq_true rfl) (by rw [hR]; exact Nat.le_of_ble_eq_true rfl) (by rw [hR]; exact Nat.le_of_ble_eq_true rfl) ⟨by rw [hR]; exact Nat.le_of_ble_eq_true rfl, by rw [hR]; exact Nat.le_of_ble_eq_true rfl⟩ rfl dX7_step_173 ?_
                refine g_iadd C dX7_step_176 ?_
                refine g_bipush C 48 dX7_step_177 (by decide) ?_
                refine g_isub C dX7_step_179 ?_
                refine g_mmin C 95 mw_5_215 mw_5_216 mw_1_8 mw_5_217 (by rw [hR]; exact Nat.le_of_ble_eq_true rfl) (by rw [hR]; exact Nat.le_of_ble_eq_true rfl) ⟨by rw [hR]; exact Nat.le_of_ble_eq_true rfl, by rw [hR]; exact Nat.le_of_ble_eq_true rfl⟩ dX7_step_180 ?_
                refine g_put C 7 91 gin7 tyX7 tyX7_ok nmX7 0 rfl rfl 6 (by decide) mw_5_91 rfl rfl (ty := .int) (by decide +kernel) rfl rfl (Nat.le_of_ble_eq_true rfl) [(a0, .inr (7, [.int (q7_thrown o0), .ref a0_buffer, .int (q7_length o0), .int v61.1, .int v1, .int x8, .int (jmin 100000 (((10 * v61.2) + r70) - 48)), .int (q7_wrong o0), .ref a0_now, .ref a0_made, .ref a0_history, .ref a0_saved, .int (q7_entries o0), .int (q7_isSaved o0), .ref a0_closed, .ref a0_faces, .ref a0_rankOf, .ref a0_placeOf, .int (q7_faceMany o0), .int (q7_isLaid o0), .ref a0_counted, .ref a0_steps, .ref a0_onto, .ref a0_goes, .int (q7_found o0), .int (q7_images o0), .ref a0_firstImage, .int (q7_gathered o0)])), (a0_buffer, .inl (zI Z, 300, .inl (q7_buffer o0)))] rfl dX7_step_183 ?_
                refine g_aload_n C dX7_step_186 rfl 0 rfl ?_
                refine g_dup C dX7_step_187 rfl ?_
                refine g_get C 7 71 gin7 0 rfl rfl 3 (by decide) mw_5_88 rfl rfl dX7_step_188 ?_
                refine g_iconst C 1 dX7_step_191 (by decide) ?_
                refine g_iadd C dX7_step_192 ?_
                refine g_put C 7 71 gin7 tyX7 tyX7_ok nmX7 0 rfl rfl 3 (by decide) mw_5_88 rfl rfl (ty := .int) (by decide +kernel) rfl rfl (Nat.le_of_ble_eq_true rfl) [(a0, .inr (7, [.int (q7_thrown o0), .ref a0_buffer, .int (q7_length o0), .int (v61.1 + 1), .int v1, .int x8, .int (jmin 100000 (((10 * v61.2) + r70) - 48)), .int (q7_wrong o0), .ref a0_now, .ref a0_made, .ref a0_history, .ref a0_saved, .int (q7_entries o0), .int (q7_isSaved o0), .ref a0_closed, .ref a0_faces, .ref a0_rankOf, .ref a0_placeOf, .int (q7_faceMany o0), .int (q7_isLaid o0), .ref a0_counted, .ref a0_steps, .ref a0_onto, .ref a0_goes, .int (q7_found o0), .int (q7_images o0), .ref a0_firstImage, .int (q7_gathered o0)])), (a0_buffer, .inl (zI Z, 300, .inl (q7_buffer o0)))] rfl dX7_step_193 ?_
                refine g_goto C 136 dX7_step_196 (by decide) ?_
                exact hk1 ((v61.1 + 1), (jmin 100000 (((10 * v61.2) + r70) - 48))) (Option.some.inj h).symm
          · replace h := it_f c59 h
            refine g_aload_n C dX7_step_123 rfl 0 rfl ?_
            refine g_dup C dX7_step_124 rfl ?_
            refine g_get C 7 71 gin7 0 rfl rfl 3 (by decide) mw_5_88 rfl rfl dX7_step_125 ?_
            refine g_iconst C 1 dX7_step_128 (by decide) ?_
            refine g_iadd C dX7_step_129 ?_
            refine g_put C 7 71 gin7 tyX7 tyX7_ok nmX7 0 rfl rfl 3 (by decide) mw_5_88 rfl rfl (ty := .int) (by decide +kernel) rfl rfl (Nat.le_of_ble_eq_true rfl) [(a0, .inr (7, [.int (q7_thrown o0), .ref a0_buffer, .int (q7_length o0), .int (v41 + 1), .int v1, .int x8, .int 0, .int (q7_wrong o0), .ref a0_now, .ref a0_made, .ref a0_history, .ref a0_saved, .int (q7_entries o0), .int (q7_isSaved o0), .ref a0_closed, .ref a0_faces, .ref a0_rankOf, .ref a0_placeOf, .int (q7_faceMany o0), .int (q7_isLaid o0), .ref a0_counted, .ref a0_steps, .ref a0_onto, .ref a0_goes, .int (q7_found o0), .int (q7_images o0), .ref a0_firstImage, .int (q7_gathered o0)])), (a0_buffer, .inl (zI Z, 300, .inl (q7_buffer o0)))] rfl dX7_step_130 ?_
            refine g_goto C 101 dX7_step_133 (by decide) ?_
            exact hk1 (v41 + 1) (Option.some.inj h).symm
    refine g_if_ge C 52 dX7_step_45 (by decide) (fun c72 => ?_) (fun c72 => ?_)
    · replace h := it_t c72 h
      refine g_iload_n C dX7_step_52 rfl 0 rfl ?_
      obtain ⟨r73, hr74, h⟩ := bd_of h
      refine g_callSi C (kX7_isLetter l Z r6 r73 hr74) myX7_isLetter 81 mw_5_208 rfl [] [0, 1] [0, 1] (wr := [(a0, .inr (7, [.int (q7_thrown o0), .ref a0_buffer, .int (q7_length o0), .int v1, .int v1, .int (q7_kind o0), .int (q7_number o0), .int (q7_wrong o0), .ref a0_now, .ref a0_made, .ref a0_history, .ref a0_saved, .int (q7_entries o0), .int (q7_isSaved o0), .ref a0_closed, .ref a0_faces, .ref a0_rankOf, .ref a0_placeOf, .int (q7_faceMany o0), .int (q7_isLaid o0), .ref a0_counted, .ref a0_steps, .ref a0_onto, .ref a0_goes, .int (q7_found o0), .int (q7_images o0), .ref a0_firstImage, .int (q7_gathered o0)])), (a0_buffer, .inl (zI Z, 300, .inl (q7_buffer o0)))]) rfl rfl (by decide) (by decide) (by decide) [(a0, .inr (7, [.int (q7_thrown o0), .ref a0_buffer, .int (q7_length o0), .int v1, .int v1, .int (q7_kind o0), .int (q7_number o0), .int (q7_wrong o0), .ref a0_now, .ref a0_made, .ref a0_history, .ref a0_saved, .int (q7_entries o0), .int (q7_isSaved o0), .ref a0_closed, .ref a0_faces, .ref a0_rankOf, .ref a0_placeOf, .int (q7_faceMany o0), .int (q7_isLaid o0), .ref a0_counted, .ref a0_steps, .ref a0_onto, .ref a0_goes, .int (q7_found o0), .int (q7_images o0), .ref a0_firstImage, .int (q7_gathered o0)])), (a0_buffer, .inl (zI Z, 300, .inl (q7_buffer o0)))] rfl (by decide) (Nat.le_of_ble_eq_true rfl) (by rw [hR]; exact Nat.le_of_ble_eq_true rfl) (by rw [hR]; exact Nat.le_of_ble_eq_true rfl) ⟨by rw [hR]; exact Nat.le_of_ble_eq_true rfl, by rw [hR]; exact Nat.le_of_ble_eq_true rfl⟩ rfl dX7_step_53 ?_
      refine g_if_eq C 63 dX7_step_56 (by decide) (fun c75 => ?_) (fun c75 => ?_)
      · replace h := it_t c75 h
        refine g_iload_n C dX7_step_63 rfl 0 rfl ?_
        obtain ⟨r76, hr77, h⟩ := bd_of h
        refine g_callSi C (kX7_isDigit l Z r6 r76 hr77) myX7_isDigit 85 mw_5_211 rfl [] [0, 1] [0, 1] (wr := [(a0, .inr (7, [.int (q7_thrown o0), .ref a0_buffer, .int (q7_length o0), .int v1, .int v1, .int (q7_kind o0), .int (q7_number o0), .int (q7_wrong o0), .ref a0_now, .ref a0_made, .ref a0_history, .ref a0_saved, .int (q7_entries o0), .int (q7_isSaved o0), .ref a0_closed, .ref a0_faces, .ref a0_rankOf, .ref a0_placeOf, .int (q7_faceMany o0), .int (q7_isLaid o0), .ref a0_counted, .ref a0_steps, .ref a0_onto, .ref a0_goes, .int (q7_found o0), .int (q7_images o0), .ref a0_firstImage, .int (q7_gathered o0)])), (a0_buffer, .inl (zI Z, 300, .inl (q7_buffer o0)))]) rfl rfl (by decide) (by decide) (by decide) [(a0, .inr (7, [.int (q7_thrown o0), .ref a0_buffer, .int (q7_length o0), .int v1, .int v1, .int (q7_kind o0), .int (q7_number o0), .int (q7_wrong o0), .ref a0_now, .ref a0_made, .ref a0_history, .ref a0_saved, .int (q7_entries o0), .int (q7_isSaved o0), .ref a0_closed, .ref a0_faces, .ref a0_rankOf, .ref a0_placeOf, .int (q7_faceMany o0), .int (q7_isLaid o0), .ref a0_counted, .ref a0_steps, .ref a0_onto, .ref a0_goes, .int (q7_found o0), .int (q7_images o0), .ref a0_firstImage, .int (q7_gathered o0)])), (a0_buffer, .inl (zI Z, 300, .inl (q7_buffer o0)))] rfl (by decide) (Nat.le_of_ble_eq_true rfl) (by rw [hR]; exact Nat.le_of_ble_eq_true rfl) (by rw [hR]; exact Nat.le_of_ble_eq_true rfl) ⟨by rw [hR]; exact Nat.le_of_ble_eq_true rfl, by rw [hR]; exact Nat.le_of_ble_eq_true rfl⟩ rfl dX7_step_64 ?_
        refine g_if_eq C 74 dX7_step_67 (by decide) (fun c78 => ?_) (fun c78 => ?_)
        · replace h := it_t c78 h
          refine g_iconst C 3 dX7_step_74 (by decide) ?_
          refine g_lv [1] [(0, .ref a0)] rfl ?_
          exact hj75 3 h
        · replace h := it_f c78 h
          refine g_iconst C 2 dX7_step_70 (by decide) ?_
          refine g_goto C 75 dX7_step_71 (by decide) ?_
          refine g_lv [1] [(0, .ref a0)] rfl ?_
          exact hj75 2 h
      · replace h := it_f c75 h
        refine g_iconst C 1 dX7_step_59 (by decide) ?_
        refine g_goto C 75 dX7_step_60 (by decide) ?_
        refine g_lv [1] [(0, .ref a0)] rfl ?_
        exact hj75 1 h
    · replace h := it_f c72 h
      refine g_iconst C 0 dX7_step_48 (by decide) ?_
      refine g_goto C 75 dX7_step_49 (by decide) ?_
      refine g_lv [1] [(0, .ref a0)] rfl ?_
      exact hj75 0 h
  · replace h := it_t c4 h
    refine g_aload_n C dX7_step_13 rfl 0 rfl ?_
    refine g_dup C dX7_step_14 rfl ?_
    refine g_get C 7 71 gin7 0 rfl rfl 3 (by decide) mw_5_88 rfl rfl dX7_step_15 ?_
    refine g_iconst C 1 dX7_step_18 (by decide) ?_
    refine g_iadd C dX7_step_19 ?_
    refine g_put C 7 71 gin7 tyX7 tyX7_ok nmX7 0 rfl rfl 3 (by decide) mw_5_88 rfl rfl (ty := .int) (by decide +kernel) rfl rfl (Nat.le_of_ble_eq_true rfl) [(a0, .inr (7, [.int (q7_thrown o0), .ref a0_buffer, .int (q7_length o0), .int (v1 + 1), .int (q7_from o0), .int (q7_kind o0), .int (q7_number o0), .int (q7_wrong o0), .ref a0_now, .ref a0_made, .ref a0_history, .ref a0_saved, .int (q7_entries o0), .int (q7_isSaved o0), .ref a0_closed, .ref a0_faces, .ref a0_rankOf, .ref a0_placeOf, .int (q7_faceMany o0), .int (q7_isLaid o0), .ref a0_counted, .ref a0_steps, .ref a0_onto, .ref a0_goes, .int (q7_found o0), .int (q7_images o0), .ref a0_firstImage, .int (q7_gathered o0)])), (a0_buffer, .inl (zI Z, 300, .inl (q7_buffer o0)))] rfl dX7_step_20 ?_
    refine g_goto C 0 dX7_step_23 (by decide) ?_
    exact hk1 (v1 + 1) (Option.some.inj h).symm
def fX7_fail (o0 : OX7) : Option (OX7) :=
  if 0 ≤ (q7_wrong o0) then (some (s7_wrong o0 (q7_wrong o0)))
  else (some (s7_wrong o0 (q7_from o0)))
theorem myX7_fail : MYv yX7_fail cX7_fail 1 none 0 := ⟨mw_6_3, ms_42, mw_6_4, mw_1_9, ⟨by decide +kernel, by decide +kernel⟩, by decide +kernel⟩
set_option maxRecDepth 100000 in
set_option maxHeartbeats 4000000 in
theorem kX7_fail (l : Launch) (Z : GZ) (a0 a0_buffer a0_now a0_made a0_history a0_saved a0_closed a0_faces a0_rankOf a0_placeOf a0_counted a0_steps a0_onto a0_goes a0_firstImage : Nat) (o0 : OX7) (res : OX7) (h : fX7_fail o0 = some res) : MV l Z yX7_fail cX7_fail 1 0 0 [.ref a0] [(a0, .inr (7, [.int (q7_thrown o0), .ref a0_buffer, .int (q7_length o0), .int (q7_at o0), .int (q7_from o0), .int (q7_kind o0), .int (q7_number o0), .int (q7_wrong o0), .ref a0_now, .ref a0_made, .ref a0_history, .ref a0_saved, .int (q7_entries o0), .int (q7_isSaved o0), .ref a0_closed, .ref a0_faces, .ref a0_rankOf, .ref a0_placeOf, .int (q7_faceMany o0), .int (q7_isLaid o0), .ref a0_counted, .ref a0_steps, .ref a0_onto, .ref a0_goes, .int (q7_found o0), .int (q7_images o0), .ref a0_firstImage, .int (q7_gathered o0)]))] [(a0, .inr (7, [.int (q7_thrown o0), .ref a0_buffer, .int (q7_length o0), .int (q7_at o0), .int (q7_from o0), .int (q7_kind o0), .int (q7_number o0), .int (q7_wrong res), .ref a0_now, .ref a0_made, .ref a0_history, .ref a0_saved, .int (q7_entries o0), .int (q7_isSaved o0), .ref a0_closed, .ref a0_faces, .ref a0_rankOf, .ref a0_placeOf, .int (q7_faceMany o0), .int (q7_isLaid o0), .ref a0_counted, .ref a0_steps, .ref a0_onto, .ref a0_goes, .int (q7_found o0), .int (q7_images o0), .ref a0_firstImage, .int (q7_gathered o0)]))] := by
  refine MV_of (by decide +kernel) (Nat.le_of_ble_eq_true rfl) (fun {p e s m args below meth c} A R hR Q hQ C hr hlk => ?_)
  unfold fX7_fail at h
  refine g_lv [0] [(0, .ref a0)] rfl ?_
  refine g_aload_n C dX7_fail_0 rfl 0 rfl ?_
  refine g_aload_n C dX7_fail_1 rfl 0 rfl ?_
  refine g_get C 7 101 gin7 0 rfl rfl 7 (by decide) mw_5_92 rfl rfl dX7_fail_2 ?_
  refine g_if_ge C 15 dX7_fail_5 (by decide) (fun c1 => ?_) (fun c1 => ?_)
  · replace h := it_t c1 h
    refine g_aload_n C dX7_fail_15 rfl 0 rfl ?_
    refine g_get C 7 101 gin7 0 rfl rfl 7 (by decide) mw_5_92 rfl rfl dX7_fail_16 ?_
    refine g_put C 7 101 gin7 tyX7 tyX7_ok nmX7 0 rfl rfl 7 (by decide) mw_5_92 rfl rfl (ty := .int) (by decide +kernel) rfl rfl (Nat.le_of_ble_eq_true rfl) [(a0, .inr (7, [.int (q7_thrown o0), .ref a0_buffer, .int (q7_length o0), .int (q7_at o0), .int (q7_from o0), .int (q7_kind o0), .int (q7_number o0), .int (q7_wrong o0), .ref a0_now, .ref a0_made, .ref a0_history, .ref a0_saved, .int (q7_entries o0), .int (q7_isSaved o0), .ref a0_closed, .ref a0_faces, .ref a0_rankOf, .ref a0_placeOf, .int (q7_faceMany o0), .int (q7_isLaid o0), .ref a0_counted, .ref a0_steps, .ref a0_onto, .ref a0_goes, .int (q7_found o0), .int (q7_images o0), .ref a0_firstImage, .int (q7_gathered o0)]))] rfl dX7_fail_19 ?_
    obtain rfl := Option.some.inj h
    subst hQ
    exact g_vret C hr hlk dX7_fail_22 [0] rfl (by decide)
  · replace h := it_f c1 h
    refine g_aload_n C dX7_fail_8 rfl 0 rfl ?_
    refine g_get C 7 78 gin7 0 rfl rfl 4 (by decide) mw_5_89 rfl rfl dX7_fail_9 ?_
    refine g_goto C 19 dX7_fail_12 (by decide) ?_
    refine g_put C 7 101 gin7 tyX7 tyX7_ok nmX7 0 rfl rfl 7 (by decide) mw_5_92 rfl rfl (ty := .int) (by decide +kernel) rfl rfl (Nat.le_of_ble_eq_true rfl) [(a0, .inr (7, [.int (q7_thrown o0), .ref a0_buffer, .int (q7_length o0), .int (q7_at o0), .int (q7_from o0), .int (q7_kind o0), .int (q7_number o0), .int (q7_from o0), .ref a0_now, .ref a0_made, .ref a0_history, .ref a0_saved, .int (q7_entries o0), .int (q7_isSaved o0), .ref a0_closed, .ref a0_faces, .ref a0_rankOf, .ref a0_placeOf, .int (q7_faceMany o0), .int (q7_isLaid o0), .ref a0_counted, .ref a0_steps, .ref a0_onto, .ref a0_goes, .int (q7_found o0), .int (q7_images o0), .ref a0_firstImage, .int (q7_gathered o0)]))] rfl dX7_fail_19 ?_
    obtain rfl := Option.some.inj h
    subst hQ
    exact g_vret C hr hlk dX7_fail_22 [0] rfl (by decide)
def fX7_isGood (o0 : OX7) : Option (Int32) :=
  if 0 ≤ (q7_wrong o0) then (some 0)
  else (some 1)
theorem myX7_isGood : MYv yX7_isGood cX7_isGood 1 (some .boolean) 0 := ⟨mw_5_229, ms_39, mw_5_230, mw_1_9, ⟨by decide +kernel, by decide +kernel⟩, by decide +kernel⟩
set_option maxRecDepth 100000 in
set_option maxHeartbeats 4000000 in
theorem kX7_isGood (l : Launch) (Z : GZ) (a0 a0_buffer a0_now a0_made a0_history a0_saved a0_closed a0_faces a0_rankOf a0_placeOf a0_counted a0_steps a0_onto a0_goes a0_firstImage : Nat) (o0 : OX7) (res : Int32) (h : fX7_isGood o0 = some res) : MI l Z yX7_isGood cX7_isGood 1 .boolean 0 0 [.ref a0] [(a0, .inr (7, [.int (q7_thrown o0), .ref a0_buffer, .int (q7_length o0), .int (q7_at o0), .int (q7_from o0), .int (q7_kind o0), .int (q7_number o0), .int (q7_wrong o0), .ref a0_now, .ref a0_made, .ref a0_history, .ref a0_saved, .int (q7_entries o0), .int (q7_isSaved o0), .ref a0_closed, .ref a0_faces, .ref a0_rankOf, .ref a0_placeOf, .int (q7_faceMany o0), .int (q7_isLaid o0), .ref a0_counted, .ref a0_steps, .ref a0_onto, .ref a0_goes, .int (q7_found o0), .int (q7_images o0), .ref a0_firstImage, .int (q7_gathered o0)]))] res [(a0, .inr (7, [.int (q7_thrown o0), .ref a0_buffer, .int (q7_length o0), .int (q7_at o0), .int (q7_from o0), .int (q7_kind o0), .int (q7_number o0), .int (q7_wrong o0), .ref a0_now, .ref a0_made, .ref a0_history, .ref a0_saved, .int (q7_entries o0), .int (q7_isSaved o0), .ref a0_closed, .ref a0_faces, .ref a0_rankOf, .ref a0_placeOf, .int (q7_faceMany o0), .int (q7_isLaid o0), .ref a0_counted, .ref a0_steps, .ref a0_onto, .ref a0_goes, .int (q7_found o0), .int (q7_images o0), .ref a0_firstImage, .int (q7_gathered o0)]))] := by
  refine MI_of (by decide +kernel) (Nat.le_of_ble_eq_true rfl) (fun {p e s m args below meth c} A R hR Q hQ C hr hlk => ?_)
  unfold fX7_isGood at h
  refine g_lv [0] [(0, .ref a0)] rfl ?_
  refine g_aload_n C dX7_isGood_0 rfl 0 rfl ?_
  refine g_get C 7 101 gin7 0 rfl rfl 7 (by decide) mw_5_92 rfl rfl dX7_isGood_1 ?_
  refine g_if_ge C 11 dX7_isGood_4 (by decide) (fun c1 => ?_) (fun c1 => ?_)
  · replace h := it_t c1 h
    refine g_iconst C 0 dX7_isGood_11 (by decide) ?_
    obtain rfl := Option.some.inj h
    subst hQ
    exact g_zret C rfl (Or.inl rfl) hr hlk dX7_isGood_12 [0] rfl (by decide)
  · replace h := it_f c1 h
    refine g_iconst C 1 dX7_isGood_7 (by decide) ?_
    refine g_goto C 12 dX7_isGood_8 (by decide) ?_
    obtain rfl := Option.some.inj h
    subst hQ
    exact g_zret C rfl (Or.inr rfl) hr hlk dX7_isGood_12 [0] rfl (by decide)
def fX7_takeNumber_J40 (o0 : OX7) (p1 : Int32) : Option (Int32 × OX7) :=
  (fX7_fail o0).bind fun r3 =>
  (some (p1, (s7_wrong o0 (q7_wrong r3))))
def fX7_takeNumber (o0 : OX7) (p1 : Int32) (p2 : Int32) : Option (Int32 × OX7) :=
  (fX7_isGood o0).bind fun r1 =>
  (if r1 = 0 then (fX7_takeNumber_J40 o0 p1)
  else (if (q7_kind o0) = 2 then (if 4 < ((q7_at o0) - (q7_from o0)) then (fX7_takeNumber_J40 o0 p1)
  else ((fX7_in (q7_number o0) p1 p2).bind fun r8 =>
  (if r8 = 0 then (fX7_takeNumber_J40 o0 p1)
  else ((fX7_step o0).bind fun r11 =>
  (some ((q7_number o0), (s7_number (s7_kind (s7_from (s7_at o0 (q7_at r11)) (q7_from r11)) (q7_kind r11)) (q7_number r11))))))))
  else (fX7_takeNumber_J40 o0 p1)))
theorem myX7_takeNumber : MYv yX7_takeNumber cX7_takeNumber 4 (some .int) 2 := ⟨mw_5_239, ms_41, mw_6_0, mw_1_9, ⟨by decide +kernel, by decide +kernel⟩, by decide +kernel⟩
set_option maxRecDepth 100000 in
set_option maxHeartbeats 4000000 in
theorem kX7_takeNumber (l : Launch) (Z : GZ) (a0 a0_buffer a0_now a0_made a0_history a0_saved a0_closed a0_faces a0_rankOf a0_placeOf a0_counted a0_steps a0_onto a0_goes a0_firstImage : Nat) (o0 : OX7) (p1 : Int32) (p2 : Int32) (res : Int32 × OX7) (h : fX7_takeNumber o0 p1 p2 = some res) : MI l Z yX7_takeNumber cX7_takeNumber 4 .int 2 42 [.ref a0, .int p1, .int p2] [(a0, .inr (7, [.int (q7_thrown o0), .ref a0_buffer, .int (q7_length o0), .int (q7_at o0), .int (q7_from o0), .int (q7_kind o0), .int (q7_number o0), .int (q7_wrong o0), .ref a0_now, .ref a0_made, .ref a0_history, .ref a0_saved, .int (q7_entries o0), .int (q7_isSaved o0), .ref a0_closed, .ref a0_faces, .ref a0_rankOf, .ref a0_placeOf, .int (q7_faceMany o0), .int (q7_isLaid o0), .ref a0_counted, .ref a0_steps, .ref a0_onto, .ref a0_goes, .int (q7_found o0), .int (q7_images o0), .ref a0_firstImage, .int (q7_gathered o0)])), (a0_buffer, .inl (zI Z, 300, .inl (q7_buffer o0)))] res.1 [(a0, .inr (7, [.int (q7_thrown o0), .ref a0_buffer, .int (q7_length o0), .int (q7_at res.2), .int (q7_from res.2), .int (q7_kind res.2), .int (q7_number res.2), .int (q7_wrong res.2), .ref a0_now, .ref a0_made, .ref a0_history, .ref a0_saved, .int (q7_entries o0), .int (q7_isSaved o0), .ref a0_closed, .ref a0_faces, .ref a0_rankOf, .ref a0_placeOf, .int (q7_faceMany o0), .int (q7_isLaid o0), .ref a0_counted, .ref a0_steps, .ref a0_onto, .ref a0_goes, .int (q7_found o0), .int (q7_images o0), .ref a0_firstImage, .int (q7_gathered o0)])), (a0_buffer, .inl (zI Z, 300, .inl (q7_buffer o0)))] := by
  refine MI_of (by decide +kernel) (Nat.le_of_ble_eq_true rfl) (fun {p e s m args below meth c} A R hR Q hQ C hr hlk => ?_)
  unfold fX7_takeNumber at h
  refine g_lv [0, 1, 2] [(0, .ref a0), (1, .int p1), (2, .int p2)] rfl ?_
  refine g_aload_n C dX7_takeNumber_0 rfl 0 rfl ?_
  obtain ⟨r1, hr2, h⟩ := bd_of h
  refine g_callVi C (kX7_isGood l Z a0 a0_buffer a0_now a0_made a0_history a0_saved a0_closed a0_faces a0_rankOf a0_placeOf a0_counted a0_steps a0_onto a0_goes a0_firstImage o0 r1 hr2) 0 rfl (ci := 7) rfl rfl myX7_isGood 104 mw_5_227 rfl [0] [1] [1, 0] (wr := [(a0_buffer, .inl (zI Z, 300, .inl (q7_buffer o0)))]) rfl rfl (by decide) (by decide) (by decide) [(a0, .inr (7, [.int (q7_thrown o0), .ref a0_buffer, .int (q7_length o0), .int (q7_at o0), .int (q7_from o0), .int (q7_kind o0), .int (q7_number o0), .int (q7_wrong o0), .ref a0_now, .ref a0_made, .ref a0_history, .ref a0_saved, .int (q7_entries o0), .int (q7_isSaved o0), .ref a0_closed, .ref a0_faces, .ref a0_rankOf, .ref a0_placeOf, .int (q7_faceMany o0), .int (q7_isLaid o0), .ref a0_counted, .ref a0_steps, .ref a0_onto, .ref a0_goes, .int (q7_found o0), .int (q7_images o0), .ref a0_firstImage, .int (q7_gathered o0)])), (a0_buffer, .inl (zI Z, 300, .inl (q7_buffer o0)))] rfl (by decide) (Nat.le_of_ble_eq_true rfl) (by rw [hR]; exact Nat.le_of_ble_eq_true rfl) (by rw [hR]; exact Nat.le_of_ble_eq_true rfl) ⟨by rw [hR]; exact Nat.le_of_ble_eq_true rfl, by rw [hR]; exact Nat.le_of_ble_eq_true rfl⟩ rfl dX7_takeNumber_1 ?_
  have hj40 : fX7_takeNumber_J40 o0 p1 = some res → Gw p l e R s m args below meth c 4 Z A Q 0 0 40 [(0, .ref a0), (1, .int p1)] [] [(a0, .inr (7, [.int (q7_thrown o0), .ref a0_buffer, .int (q7_length o0), .int (q7_at o0), .int (q7_from o0), .int (q7_kind o0), .int (q7_number o0), .int (q7_wrong o0), .ref a0_now, .ref a0_made, .ref a0_history, .ref a0_saved, .int (q7_entries o0), .int (q7_isSaved o0), .ref a0_closed, .ref a0_faces, .ref a0_rankOf, .ref a0_placeOf, .int (q7_faceMany o0), .int (q7_isLaid o0), .ref a0_counted, .ref a0_steps, .ref a0_onto, .ref a0_goes, .int (q7_found o0), .int (q7_images o0), .ref a0_firstImage, .int (q7_gathered o0)])), (a0_buffer, .inl (zI Z, 300, .inl (q7_buffer o0)))] := by
    intro h
    unfold fX7_takeNumber_J40 at h
    refine g_aload_n C dX7_takeNumber_40 rfl 0 rfl ?_
    obtain ⟨r3, hr4, h⟩ := bd_of h
    refine g_callVv C (kX7_fail l Z a0 a0_buffer a0_now a0_made a0_history a0_saved a0_closed a0_faces a0_rankOf a0_placeOf a0_counted a0_steps a0_onto a0_goes a0_firstImage o0 r3 hr4) 0 rfl (ci := 7) rfl rfl myX7_fail 117 mw_6_1 rfl [0] [1] [1, 0] (wr := [(a0_buffer, .inl (zI Z, 300, .inl (q7_buffer o0)))]) rfl rfl (by decide) (by decide) (by decide) [(a0, .inr (7, [.int (q7_thrown o0), .ref a0_buffer, .int (q7_length o0), .int (q7_at o0), .int (q7_from o0), .int (q7_kind o0), .int (q7_number o0), .int (q7_wrong r3), .ref a0_now, .ref a0_made, .ref a0_history, .ref a0_saved, .int (q7_entries o0), .int (q7_isSaved o0), .ref a0_closed, .ref a0_faces, .ref a0_rankOf, .ref a0_placeOf, .int (q7_faceMany o0), .int (q7_isLaid o0), .ref a0_counted, .ref a0_steps, .ref a0_onto, .ref a0_goes, .int (q7_found o0), .int (q7_images o0), .ref a0_firstImage, .int (q7_gathered o0)])), (a0_buffer, .inl (zI Z, 300, .inl (q7_buffer o0)))] rfl (by decide) (Nat.le_of_ble_eq_true rfl) (by rw [hR]; exact Nat.le_of_ble_eq_true rfl) (by rw [hR]; exact Nat.le_of_ble_eq_true rfl) ⟨by rw [hR]; exact Nat.le_of_ble_eq_true rfl, by rw [hR]; exact Nat.le_of_ble_eq_true rfl⟩ rfl dX7_takeNumber_41 ?_
    refine g_iload_n C dX7_takeNumber_44 rfl 1 rfl ?_
    obtain rfl := Option.some.inj h
    subst hQ
    exact g_iret C rfl hr hlk dX7_takeNumber_45 [0, 1] rfl (by decide)
  refine g_if_eq C 40 dX7_takeNumber_4 (by decide) (fun c5 => ?_) (fun c5 => ?_)
  · replace h := it_t c5 h
    refine g_lv [0, 1] [(0, .ref a0), (1, .int p1)] rfl ?_
    exact hj40 h
  · replace h := it_f c5 h
    refine g_aload_n C dX7_takeNumber_7 rfl 0 rfl ?_
    refine g_get C 7 88 gin7 0 rfl rfl 5 (by decide) mw_5_90 rfl rfl dX7_takeNumber_8 ?_
    refine g_iconst C 2 dX7_takeNumber_11 (by decide) ?_
    refine g_icmp_ne C 40 dX7_takeNumber_12 (by decide) (fun c6 => ?_) (fun c6 => ?_)
    · replace h := it_f c6 h
      refine g_lv [0, 1] [(0, .ref a0), (1, .int p1)] rfl ?_
      exact hj40 h
    · replace h := it_t c6 h
      refine g_aload_n C dX7_takeNumber_15 rfl 0 rfl ?_
      refine g_get C 7 71 gin7 0 rfl rfl 3 (by decide) mw_5_88 rfl rfl dX7_takeNumber_16 ?_
      refine g_aload_n C dX7_takeNumber_19 rfl 0 rfl ?_
      refine g_get C 7 78 gin7 0 rfl rfl 4 (by decide) mw_5_89 rfl rfl dX7_takeNumber_20 ?_
      refine g_isub C dX7_takeNumber_23 ?_
      refine g_iconst C 4 dX7_takeNumber_24 (by decide) ?_
      refine g_icmp_gt C 40 dX7_takeNumber_25 (by decide) (fun c7 => ?_) (fun c7 => ?_)
      · replace h := it_t c7 h
        refine g_lv [0, 1] [(0, .ref a0), (1, .int p1)] rfl ?_
        exact hj40 h
      · replace h := it_f c7 h
        refine g_aload_n C dX7_takeNumber_28 rfl 0 rfl ?_
        refine g_get C 7 91 gin7 0 rfl rfl 6 (by decide) mw_5_91 rfl rfl dX7_takeNumber_29 ?_
        refine g_iload_n C dX7_takeNumber_32 rfl 1 rfl ?_
        refine g_iload_n C dX7_takeNumber_33 rfl 2 rfl ?_
        obtain ⟨r8, hr9, h⟩ := bd_of h
        refine g_callSi C (kX7_in l Z (q7_number o0) p1 p2 r8 hr9) myX7_in 67 mw_5_189 rfl [] [0, 1] [0, 1] (wr := [(a0, .inr (7, [.int (q7_thrown o0), .ref a0_buffer, .int (q7_length o0), .int (q7_at o0), .int (q7_from o0), .int (q7_kind o0), .int (q7_number o0), .int (q7_wrong o0), .ref a0_now, .ref a0_made, .ref a0_history, .ref a0_saved, .int (q7_entries o0), .int (q7_isSaved o0), .ref a0_closed, .ref a0_faces, .ref a0_rankOf, .ref a0_placeOf, .int (q7_faceMany o0), .int (q7_isLaid o0), .ref a0_counted, .ref a0_steps, .ref a0_onto, .ref a0_goes, .int (q7_found o0), .int (q7_images o0), .ref a0_firstImage, .int (q7_gathered o0)])), (a0_buffer, .inl (zI Z, 300, .inl (q7_buffer o0)))]) rfl rfl (by decide) (by decide) (by decide) [(a0, .inr (7, [.int (q7_thrown o0), .ref a0_buffer, .int (q7_length o0), .int (q7_at o0), .int (q7_from o0), .int (q7_kind o0), .int (q7_number o0), .int (q7_wrong o0), .ref a0_now, .ref a0_made, .ref a0_history, .ref a0_saved, .int (q7_entries o0), .int (q7_isSaved o0), .ref a0_closed, .ref a0_faces, .ref a0_rankOf, .ref a0_placeOf, .int (q7_faceMany o0), .int (q7_isLaid o0), .ref a0_counted, .ref a0_steps, .ref a0_onto, .ref a0_goes, .int (q7_found o0), .int (q7_images o0), .ref a0_firstImage, .int (q7_gathered o0)])), (a0_buffer, .inl (zI Z, 300, .inl (q7_buffer o0)))] rfl (by decide) (Nat.le_of_ble_eq_true rfl) (by rw [hR]; exact Nat.le_of_ble_eq_true rfl) (by rw [hR]; exact Nat.le_of_ble_eq_true rfl) ⟨by rw [hR]; exact Nat.le_of_ble_eq_true rfl, by rw [hR]; exact Nat.le_of_ble_eq_true rfl⟩ rfl dX7_takeNumber_34 ?_
        refine g_if_ne C 46 dX7_takeNumber_37 (by decide) (fun c10 => ?_) (fun c10 => ?_)
        · replace h := it_f c10 h
          refine g_aload_n C dX7_takeNumber_46 rfl 0 rfl ?_
          refine g_get C 7 91 gin7 0 rfl rfl 6 (by decide) mw_5_91 rfl rfl dX7_takeNumber_47 ?_
          refine g_istore_n C dX7_takeNumber_50 rfl (by decide) [(3, .int (q7_number o0)), (0, .ref a0), (1, .int p1), (2, .int p2)] rfl ?_
          refine g_aload_n C dX7_takeNumber_51 rfl 1 rfl ?_
          obtain ⟨r11, hr12, h⟩ := bd_of h
          refine g_callVv C (kX7_step l Z a0 a0_buffer a0_now a0_made a0_history a0_saved a0_closed a0_faces a0_rankOf a0_placeOf a0_counted a0_steps a0_onto a0_goes a0_firstImage o0 r11 hr12) 0 rfl (ci := 7) rfl rfl myX7_step 120 mw_5_200 rfl [0, 1] [] [0, 1] (wr := []) rfl rfl (by decide) (by decide) (by decide) [(a0, .inr (7, [.int (q7_thrown o0), .ref a0_buffer, .int (q7_length o0), .int (q7_at r11), .int (q7_from r11), .int (q7_kind r11), .int (q7_number r11), .int (q7_wrong o0), .ref a0_now, .ref a0_made, .ref a0_history, .ref a0_saved, .int (q7_entries o0), .int (q7_isSaved o0), .ref a0_closed, .ref a0_faces, .ref a0_rankOf, .ref a0_placeOf, .int (q7_faceMany o0), .int (q7_isLaid o0), .ref a0_counted, .ref a0_steps, .ref a0_onto, .ref a0_goes, .int (q7_found o0), .int (q7_images o0), .ref a0_firstImage, .int (q7_gathered o0)])), (a0_buffer, .inl (zI Z, 300, .inl (q7_buffer o0)))] rfl (by decide) (Nat.le_of_ble_eq_true rfl) (by rw [hR]; exact Nat.le_of_ble_eq_true rfl) (by rw [hR]; exact Nat.le_of_ble_eq_true rfl) ⟨by rw [hR]; exact Nat.le_of_ble_eq_true rfl, by rw [hR]; exact Nat.le_of_ble_eq_true rfl⟩ rfl dX7_takeNumber_52 ?_
          refine g_iload_n C dX7_takeNumber_55 rfl 0 rfl ?_
          obtain rfl := Option.some.inj h
          subst hQ
          exact g_iret C rfl hr hlk dX7_takeNumber_56 [0, 1] rfl (by decide)
        · replace h := it_t c10 h
          refine g_lv [0, 1] [(0, .ref a0), (1, .int p1)] rfl ?_
          exact hj40 h
def fX7_begin (o0 : OX7) (p1 : Int32) : Option (OX7) :=
  some (s7_made o0 (upd (upd (q7_made o0) (ix 0) p1) (ix 1) 0))
theorem myX7_begin : MYv yX7_begin cX7_begin 2 none 1 := ⟨mw_6_7, ms_43, mw_6_8, mw_1_9, ⟨by decide +kernel, by decide +kernel⟩, by decide +kernel⟩
set_option maxRecDepth 100000 in
set_option maxHeartbeats 4000000 in
theorem kX7_begin (l : Launch) (Z : GZ) (a0 a0_buffer a0_now a0_made a0_history a0_saved a0_closed a0_faces a0_rankOf a0_placeOf a0_counted a0_steps a0_onto a0_goes a0_firstImage : Nat) (o0 : OX7) (p1 : Int32) (res : OX7) (h : fX7_begin o0 p1 = some res) : MV l Z yX7_begin cX7_begin 2 0 0 [.ref a0, .int p1] [(a0, .inr (7, [.int (q7_thrown o0), .ref a0_buffer, .int (q7_length o0), .int (q7_at o0), .int (q7_from o0), .int (q7_kind o0), .int (q7_number o0), .int (q7_wrong o0), .ref a0_now, .ref a0_made, .ref a0_history, .ref a0_saved, .int (q7_entries o0), .int (q7_isSaved o0), .ref a0_closed, .ref a0_faces, .ref a0_rankOf, .ref a0_placeOf, .int (q7_faceMany o0), .int (q7_isLaid o0), .ref a0_counted, .ref a0_steps, .ref a0_onto, .ref a0_goes, .int (q7_found o0), .int (q7_images o0), .ref a0_firstImage, .int (q7_gathered o0)])), (a0_made, .inl (zI Z, 12, .inl (q7_made o0)))] [(a0, .inr (7, [.int (q7_thrown o0), .ref a0_buffer, .int (q7_length o0), .int (q7_at o0), .int (q7_from o0), .int (q7_kind o0), .int (q7_number o0), .int (q7_wrong o0), .ref a0_now, .ref a0_made, .ref a0_history, .ref a0_saved, .int (q7_entries o0), .int (q7_isSaved o0), .ref a0_closed, .ref a0_faces, .ref a0_rankOf, .ref a0_placeOf, .int (q7_faceMany o0), .int (q7_isLaid o0), .ref a0_counted, .ref a0_steps, .ref a0_onto, .ref a0_goes, .int (q7_found o0), .int (q7_images o0), .ref a0_firstImage, .int (q7_gathered o0)])), (a0_made, .inl (zI Z, 12, .inl (q7_made res)))] := by
  refine MV_of (by decide +kernel) (Nat.le_of_ble_eq_true rfl) (fun {p e s m args below meth c} A R hR Q hQ C hr hlk => ?_)
  unfold fX7_begin at h
  refine g_lv [0, 1] [(0, .ref a0), (1, .int p1)] rfl ?_
  refine g_aload_n C dX7_begin_0 rfl 0 rfl ?_
  refine g_get C 7 16 gin7 0 rfl rfl 9 (by decide) mw_5_94 rfl rfl dX7_begin_1 ?_
  refine g_iconst C 0 dX7_begin_4 (by decide) ?_
  refine g_iload_n C dX7_begin_5 rfl 1 rfl ?_
  refine g_iast C 1 rfl (by decide) [(a0, .inr (7, [.int (q7_thrown o0), .ref a0_buffer, .int (q7_length o0), .int (q7_at o0), .int (q7_from o0), .int (q7_kind o0), .int (q7_number o0), .int (q7_wrong o0), .ref a0_now, .ref a0_made, .ref a0_history, .ref a0_saved, .int (q7_entries o0), .int (q7_isSaved o0), .ref a0_closed, .ref a0_faces, .ref a0_rankOf, .ref a0_placeOf, .int (q7_faceMany o0), .int (q7_isLaid o0), .ref a0_counted, .ref a0_steps, .ref a0_onto, .ref a0_goes, .int (q7_found o0), .int (q7_images o0), .ref a0_firstImage, .int (q7_gathered o0)])), (a0_made, .inl (zI Z, 12, .inl (upd (q7_made o0) (ix 0) p1)))] rfl dX7_begin_6 ?_
  refine g_aload_n C dX7_begin_7 rfl 0 rfl ?_
  refine g_get C 7 16 gin7 0 rfl rfl 9 (by decide) mw_5_94 rfl rfl dX7_begin_8 ?_
  refine g_iconst C 1 dX7_begin_11 (by decide) ?_
  refine g_iconst C 0 dX7_begin_12 (by decide) ?_
  refine g_iast C 1 rfl (by decide) [(a0, .inr (7, [.int (q7_thrown o0), .ref a0_buffer, .int (q7_length o0), .int (q7_at o0), .int (q7_from o0), .int (q7_kind o0), .int (q7_number o0), .int (q7_wrong o0), .ref a0_now, .ref a0_made, .ref a0_history, .ref a0_saved, .int (q7_entries o0), .int (q7_isSaved o0), .ref a0_closed, .ref a0_faces, .ref a0_rankOf, .ref a0_placeOf, .int (q7_faceMany o0), .int (q7_isLaid o0), .ref a0_counted, .ref a0_steps, .ref a0_onto, .ref a0_goes, .int (q7_found o0), .int (q7_images o0), .ref a0_firstImage, .int (q7_gathered o0)])), (a0_made, .inl (zI Z, 12, .inl (upd (upd (q7_made o0) (ix 0) p1) (ix 1) 0)))] rfl dX7_begin_13 ?_
  obtain rfl := Option.some.inj h
  subst hQ
  exact g_vret C hr hlk dX7_begin_14 [0, 1] rfl (by decide)
def fX7_add (o0 : OX7) (p1 : Int32) : Option (OX7) :=
  ck (okI (2 + ((q7_made o0) (ix 1))) 12) (some (s7_made o0 (upd (upd (q7_made o0) (ix (2 + ((q7_made o0) (ix 1)))) p1) (ix 1) (((upd (q7_made o0) (ix (2 + ((q7_made o0) (ix 1)))) p1) (ix 1)) + 1))))
theorem myX7_add : MYv yX7_add cX7_add 2 none 1 := ⟨mw_6_19, ms_45, mw_6_20, mw_1_9, ⟨by decide +kernel, by decide +kernel⟩, by decide +kernel⟩
set_option maxRecDepth 100000 in
set_option maxHeartbeats 4000000 in
theorem kX7_add (l : Launch) (Z : GZ) (a0 a0_buffer a0_now a0_made a0_history a0_saved a0_closed a0_faces a0_rankOf a0_placeOf a0_counted a0_steps a0_onto a0_goes a0_firstImage : Nat) (o0 : OX7) (p1 : Int32) (res : OX7) (h : fX7_add o0 p1 = some res) : MV l Z yX7_add cX7_add 2 0 0 [.ref a0, .int p1] [(a0, .inr (7, [.int (q7_thrown o0), .ref a0_buffer, .int (q7_length o0), .int (q7_at o0), .int (q7_from o0), .int (q7_kind o0), .int (q7_number o0), .int (q7_wrong o0), .ref a0_now, .ref a0_made, .ref a0_history, .ref a0_saved, .int (q7_entries o0), .int (q7_isSaved o0), .ref a0_closed, .ref a0_faces, .ref a0_rankOf, .ref a0_placeOf, .int (q7_faceMany o0), .int (q7_isLaid o0), .ref a0_counted, .ref a0_steps, .ref a0_onto, .ref a0_goes, .int (q7_found o0), .int (q7_images o0), .ref a0_firstImage, .int (q7_gathered o0)])), (a0_made, .inl (zI Z, 12, .inl (q7_made o0)))] [(a0, .inr (7, [.int (q7_thrown o0), .ref a0_buffer, .int (q7_length o0), .int (q7_at o0), .int (q7_from o0), .int (q7_kind o0), .int (q7_number o0), .int (q7_wrong o0), .ref a0_now, .ref a0_made, .ref a0_history, .ref a0_saved, .int (q7_entries o0), .int (q7_isSaved o0), .ref a0_closed, .ref a0_faces, .ref a0_rankOf, .ref a0_placeOf, .int (q7_faceMany o0), .int (q7_isLaid o0), .ref a0_counted, .ref a0_steps, .ref a0_onto, .ref a0_goes, .int (q7_found o0), .int (q7_images o0), .ref a0_firstImage, .int (q7_gathered o0)])), (a0_made, .inl (zI Z, 12, .inl (q7_made res)))] := by
  refine MV_of (by decide +kernel) (Nat.le_of_ble_eq_true rfl) (fun {p e s m args below meth c} A R hR Q hQ C hr hlk => ?_)
  unfold fX7_add at h
  refine g_lv [0, 1] [(0, .ref a0), (1, .int p1)] rfl ?_
  refine g_aload_n C dX7_add_0 rfl 0 rfl ?_
  refine g_get C 7 16 gin7 0 rfl rfl 9 (by decide) mw_5_94 rfl rfl dX7_add_1 ?_
  refine g_iconst C 2 dX7_add_4 (by decide) ?_
  refine g_aload_n C dX7_add_5 rfl 0 rfl ?_
  refine g_get C 7 16 gin7 0 rfl rfl 9 (by decide) mw_5_94 rfl rfl dX7_add_6 ?_
  refine g_iconst C 1 dX7_add_9 (by decide) ?_
  refine g_iald C 1 rfl (by decide) dX7_add_10 ?_
  refine g_iadd C dX7_add_11 ?_
  refine g_iload_n C dX7_add_12 rfl 1 rfl ?_
  obtain ⟨hi1, h⟩ := ck_of h
  refine g_iast C 1 rfl hi1 [(a0, .inr (7, [.int (q7_thrown o0), .ref a0_buffer, .int (q7_length o0), .int (q7_at o0), .int (q7_from o0), .int (q7_kind o0), .int (q7_number o0), .int (q7_wrong o0), .ref a0_now, .ref a0_made, .ref a0_history, .ref a0_saved, .int (q7_entries o0), .int (q7_isSaved o0), .ref a0_closed, .ref a0_faces, .ref a0_rankOf, .ref a0_placeOf, .int (q7_faceMany o0), .int (q7_isLaid o0), .ref a0_counted, .ref a0_steps, .ref a0_onto, .ref a0_goes, .int (q7_found o0), .int (q7_images o0), .ref a0_firstImage, .int (q7_gathered o0)])), (a0_made, .inl (zI Z, 12, .inl (upd (q7_made o0) (ix (2 + ((q7_made o0) (ix 1)))) p1)))] rfl dX7_add_13 ?_
  refine g_aload_n C dX7_add_14 rfl 0 rfl ?_
  refine g_get C 7 16 gin7 0 rfl rfl 9 (by decide) mw_5_94 rfl rfl dX7_add_15 ?_
  refine g_iconst C 1 dX7_add_18 (by decide) ?_
  refine g_dup2 C dX7_add_19 rfl rfl ?_
  refine g_iald C 1 rfl (by decide) dX7_add_20 ?_
  refine g_iconst C 1 dX7_add_21 (by decide) ?_
  refine g_iadd C dX7_add_22 ?_
  refine g_iast C 1 rfl (by decide) [(a0, .inr (7, [.int (q7_thrown o0), .ref a0_buffer, .int (q7_length o0), .int (q7_at o0), .int (q7_from o0), .int (q7_kind o0), .int (q7_number o0), .int (q7_wrong o0), .ref a0_now, .ref a0_made, .ref a0_history, .ref a0_saved, .int (q7_entries o0), .int (q7_isSaved o0), .ref a0_closed, .ref a0_faces, .ref a0_rankOf, .ref a0_placeOf, .int (q7_faceMany o0), .int (q7_isLaid o0), .ref a0_counted, .ref a0_steps, .ref a0_onto, .ref a0_goes, .int (q7_found o0), .int (q7_images o0), .ref a0_firstImage, .int (q7_gathered o0)])), (a0_made, .inl (zI Z, 12, .inl (upd (upd (q7_made o0) (ix (2 + ((q7_made o0) (ix 1)))) p1) (ix 1) (((upd (q7_made o0) (ix (2 + ((q7_made o0) (ix 1)))) p1) (ix 1)) + 1))))] rfl dX7_add_23 ?_
  obtain rfl := Option.some.inj h
  subst hQ
  exact g_vret C hr hlk dX7_add_24 [0, 1] rfl (by decide)
def fX7_every (p0 : Int32) : Option (Int32) :=
  some ((jshl 1 p0) - 1)
theorem myX7_every : MYs yX7_every cX7_every 1 (some .int) 1 := ⟨mw_6_15, mw_6_16, mw_1_9, ⟨by decide +kernel, by decide +kernel⟩, by decide +kernel⟩
set_option maxRecDepth 100000 in
set_option maxHeartbeats 4000000 in
theorem kX7_every (l : Launch) (Z : GZ) (p0 : Int32) (res : Int32) (h : fX7_every p0 = some res) : MI l Z yX7_every cX7_every 1 .int 0 0 [.int p0] [] res [] := by
  refine MI_of (by decide +kernel) (Nat.le_of_ble_eq_true rfl) (fun {p e s m args below meth c} A R hR Q hQ C hr hlk => ?_)
  unfold fX7_every at h
  refine g_lv [0] [(0, .int p0)] rfl ?_
  refine g_iconst C 1 dX7_every_0 (by decide) ?_
  refine g_iload_n C dX7_every_1 rfl 0 rfl ?_
  refine g_ishl C dX7_every_2 ?_
  refine g_iconst C 1 dX7_every_3 (by decide) ?_
  refine g_isub C dX7_every_4 ?_
  obtain rfl := Option.some.inj h
  subst hQ
  exact g_iret C rfl hr hlk dX7_every_5 [] rfl (by decide)
def fX7_makeSimplex_L7 (o0 : OX7) (p1 : Int32) (v3 : Int32 × (Nat → Int32)) : Option ((Int32 × (Nat → Int32)) ⊕ (OX7)) :=
  if p1 ≤ v3.1 then (ex (some (s7_made o0 v3.2)))
  else ((fX7_every p1).bind fun r6 =>
  ((fX7_add (s7_made o0 v3.2) (r6 &&& ((jshl 1 v3.1) ^^^ (-1)))).bind fun r8 =>
  (some (.inl ((v3.1 + 1), (q7_made r8))))))
def fX7_makeSimplex (o0 : OX7) (p1 : Int32) : Option (OX7) :=
  (fX7_begin o0 p1).bind fun r1 =>
  (lp (fX7_makeSimplex_L7 o0 p1) lpN (0, (q7_made r1)))
theorem myX7_makeSimplex : MYv yX7_makeSimplex cX7_makeSimplex 3 none 1 := ⟨mw_6_12, ms_44, mw_6_13, mw_1_9, ⟨by decide +kernel, by decide +kernel⟩, by decide +kernel⟩
set_option maxRecDepth 100000 in
set_option maxHeartbeats 4000000 in
theorem kX7_makeSimplex (l : Launch) (Z : GZ) (a0 a0_buffer a0_now a0_made a0_history a0_saved a0_closed a0_faces a0_rankOf a0_placeOf a0_counted a0_steps a0_onto a0_goes a0_firstImage : Nat) (o0 : OX7) (p1 : Int32) (res : OX7) (h : fX7_makeSimplex o0 p1 = some res) : MV l Z yX7_makeSimplex cX7_makeSimplex 3 1 21 [.ref a0, .int p1] [(a0, .inr (7, [.int (q7_thrown o0), .ref a0_buffer, .int (q7_length o0), .int (q7_at o0), .int (q7_from o0), .int (q7_kind o0), .int (q7_number o0), .int (q7_wrong o0), .ref a0_now, .ref a0_made, .ref a0_history, .ref a0_saved, .int (q7_entries o0), .int (q7_isSaved o0), .ref a0_closed, .ref a0_faces, .ref a0_rankOf, .ref a0_placeOf, .int (q7_faceMany o0), .int (q7_isLaid o0), .ref a0_counted, .ref a0_steps, .ref a0_onto, .ref a0_goes, .int (q7_found o0), .int (q7_images o0), .ref a0_firstImage, .int (q7_gathered o0)])), (a0_made, .inl (zI Z, 12, .inl (q7_made o0)))] [(a0, .inr (7, [.int (q7_thrown o0), .ref a0_buffer, .int (q7_length o0), .int (q7_at o0), .int (q7_from o0), .int (q7_kind o0), .int (q7_number o0), .int (q7_wrong o0), .ref a0_now, .ref a0_made, .ref a0_history, .ref a0_saved, .int (q7_entries o0), .int (q7_isSaved o0), .ref a0_closed, .ref a0_faces, .ref a0_rankOf, .ref a0_placeOf, .int (q7_faceMany o0), .int (q7_isLaid o0), .ref a0_counted, .ref a0_steps, .ref a0_onto, .ref a0_goes, .int (q7_found o0), .int (q7_images o0), .ref a0_firstImage, .int (q7_gathered o0)])), (a0_made, .inl (zI Z, 12, .inl (q7_made res)))] := by
  refine MV_of (by decide +kernel) (Nat.le_of_ble_eq_true rfl) (fun {p e s m args below meth c} A R hR Q hQ C hr hlk => ?_)
  unfold fX7_makeSimplex at h
  refine g_lv [0, 1] [(0, .ref a0), (1, .int p1)] rfl ?_
  refine g_aload_n C dX7_makeSimplex_0 rfl 0 rfl ?_
  refine g_iload_n C dX7_makeSimplex_1 rfl 1 rfl ?_
  obtain ⟨r1, hr2, h⟩ := bd_of h
  refine g_callVv C (kX7_begin l Z a0 a0_buffer a0_now a0_made a0_history a0_saved a0_closed a0_faces a0_rankOf a0_placeOf a0_counted a0_steps a0_onto a0_goes a0_firstImage o0 p1 r1 hr2) 0 rfl (ci := 7) rfl rfl myX7_begin 123 mw_6_5 rfl [0, 1] [] [0, 1] (wr := []) rfl rfl (by decide) (by decide) (by decide) [(a0, .inr (7, [.int (q7_thrown o0), .ref a0_buffer, .int (q7_length o0), .int (q7_at o0), .int (q7_from o0), .int (q7_kind o0), .int (q7_number o0), .int (q7_wrong o0), .ref a0_now, .ref a0_made, .ref a0_history, .ref a0_saved, .int (q7_entries o0), .int (q7_isSaved o0), .ref a0_closed, .ref a0_faces, .ref a0_rankOf, .ref a0_placeOf, .int (q7_faceMany o0), .int (q7_isLaid o0), .ref a0_counted, .ref a0_steps, .ref a0_onto, .ref a0_goes, .int (q7_found o0), .int (q7_images o0), .ref a0_firstImage, .int (q7_gathered o0)])), (a0_made, .inl (zI Z, 12, .inl (q7_made r1)))] rfl (by decide) (Nat.le_of_ble_eq_true rfl) (by rw [hR]; exact Nat.le_of_ble_eq_true rfl) (by rw [hR]; exact Nat.le_of_ble_eq_true rfl) ⟨by rw [hR]; exact Nat.le_of_ble_eq_true rfl, by rw [hR]; exact Nat.le_of_ble_eq_true rfl⟩ rfl dX7_makeSimplex_2 ?_
  refine g_iconst C 0 dX7_makeSimplex_5 (by decide) ?_
  refine g_istore_n C dX7_makeSimplex_6 rfl (by decide) [(2, .int 0), (0, .ref a0), (1, .int p1)] rfl ?_
  refine g_lv [1, 2, 0] [(0, .ref a0), (1, .int p1), (2, .int 0)] rfl ?_
  refine g_loop (lvf := fun v3 => [(0, .ref a0), (1, .int p1), (2, .int v3.1)]) (wsf := fun v3 => [(a0, .inr (7, [.int (q7_thrown o0), .ref a0_buffer, .int (q7_length o0), .int (q7_at o0), .int (q7_from o0), .int (q7_kind o0), .int (q7_number o0), .int (q7_wrong o0), .ref a0_now, .ref a0_made, .ref a0_history, .ref a0_saved, .int (q7_entries o0), .int (q7_isSaved o0), .ref a0_closed, .ref a0_faces, .ref a0_rankOf, .ref a0_placeOf, .int (q7_faceMany o0), .int (q7_isLaid o0), .ref a0_counted, .ref a0_steps, .ref a0_onto, .ref a0_goes, .int (q7_found o0), .int (q7_images o0), .ref a0_firstImage, .int (q7_gathered o0)])), (a0_made, .inl (zI Z, 12, .inl v3.2))]) h (fun v3 y1 h hk1 hx1 => ?_)
  refine g_eq (lv1 := [(0, .ref a0), (1, .int p1), (2, .int v3.1)]) (st1 := []) (ws1 := [(a0, .inr (7, [.int (q7_thrown o0), .ref a0_buffer, .int (q7_length o0), .int (q7_at o0), .int (q7_from o0), .int (q7_kind o0), .int (q7_number o0), .int (q7_wrong o0), .ref a0_now, .ref a0_made, .ref a0_history, .ref a0_saved, .int (q7_entries o0), .int (q7_isSaved o0), .ref a0_closed, .ref a0_faces, .ref a0_rankOf, .ref a0_placeOf, .int (q7_faceMany o0), .int (q7_isLaid o0), .ref a0_counted, .ref a0_steps, .ref a0_onto, .ref a0_goes, .int (q7_found o0), .int (q7_images o0), .ref a0_firstImage, .int (q7_gathered o0)])), (a0_made, .inl (zI Z, 12, .inl v3.2))]) rfl rfl rfl rfl ?_
  unfold fX7_makeSimplex_L7 at h
  refine g_iload_n C dX7_makeSimplex_7 rfl 2 rfl ?_
  refine g_iload_n C dX7_makeSimplex_8 rfl 1 rfl ?_
  refine g_icmp_ge C 32 dX7_makeSimplex_9 (by decide) (fun c4 => ?_) (fun c4 => ?_)
  · replace h := it_t c4 h
    obtain ⟨r5, h, hy⟩ := ex_of h
    rw [hx1 r5 hy] at h
    obtain rfl := Option.some.inj h
    subst hQ
    exact g_vret C hr hlk dX7_makeSimplex_32 [0, 1] rfl (by decide)
  · replace h := it_f c4 h
    refine g_aload_n C dX7_makeSimplex_12 rfl 0 rfl ?_
    refine g_iload_n C dX7_makeSimplex_13 rfl 1 rfl ?_
    obtain ⟨r6, hr7, h⟩ := bd_of h
    refine g_callSi C (kX7_every l Z p1 r6 hr7) myX7_every 127 mw_6_14 rfl [] [0, 1] [0, 1] (wr := [(a0, .inr (7, [.int (q7_thrown o0), .ref a0_buffer, .int (q7_length o0), .int (q7_at o0), .int (q7_from o0), .int (q7_kind o0), .int (q7_number o0), .int (q7_wrong o0), .ref a0_now, .ref a0_made, .ref a0_history, .ref a0_saved, .int (q7_entries o0), .int (q7_isSaved o0), .ref a0_closed, .ref a0_faces, .ref a0_rankOf, .ref a0_placeOf, .int (q7_faceMany o0), .int (q7_isLaid o0), .ref a0_counted, .ref a0_steps, .ref a0_onto, .ref a0_goes, .int (q7_found o0), .int (q7_images o0), .ref a0_firstImage, .int (q7_gathered o0)])), (a0_made, .inl (zI Z, 12, .inl v3.2))]) rfl rfl (by decide) (by decide) (by decide) [(a0, .inr (7, [.int (q7_thrown o0), .ref a0_buffer, .int (q7_length o0), .int (q7_at o0), .int (q7_from o0), .int (q7_kind o0), .int (q7_number o0), .int (q7_wrong o0), .ref a0_now, .ref a0_made, .ref a0_history, .ref a0_saved, .int (q7_entries o0), .int (q7_isSaved o0), .ref a0_closed, .ref a0_faces, .ref a0_rankOf, .ref a0_placeOf, .int (q7_faceMany o0), .int (q7_isLaid o0), .ref a0_counted, .ref a0_steps, .ref a0_onto, .ref a0_goes, .int (q7_found o0), .int (q7_images o0), .ref a0_firstImage, .int (q7_gathered o0)])), (a0_made, .inl (zI Z, 12, .inl v3.2))] rfl (by decide) (Nat.le_of_ble_eq_true rfl) (by rw [hR]; exact Nat.le_of_ble_eq_true rfl) (by rw [hR]; exact Nat.le_of_ble_eq_true rfl) ⟨by rw [hR]; exact Nat.le_of_ble_eq_true rfl, by rw [hR]; exact Nat.le_of_ble_eq_true rfl⟩ rfl dX7_makeSimplex_14 ?_
    refine g_iconst C 1 dX7_makeSimplex_17 (by decide) ?_
    refine g_iload_n C dX7_makeSimplex_18 rfl 2 rfl ?_
    refine g_ishl C dX7_makeSimplex_19 ?_
    refine g_iconst C (-1) dX7_makeSimplex_20 (by decide) ?_
    refine g_ixor C dX7_makeSimplex_21 ?_
    refine g_iand C dX7_makeSimplex_22 ?_
    obtain ⟨r8, hr9, h⟩ := bd_of h
    refine g_callVv C (kX7_add l Z a0 a0_buffer a0_now a0_made a0_history a0_saved a0_closed a0_faces a0_rankOf a0_placeOf a0_counted a0_steps a0_onto a0_goes a0_firstImage (s7_made o0 v3.2) (r6 &&& ((jshl 1 v3.1) ^^^ (-1))) r8 hr9) 0 rfl (ci := 7) rfl rfl myX7_add 130 mw_6_17 rfl [0, 1] [] [0, 1] (wr := []) rfl rfl (by decide) (by decide) (by decide) [(a0, .inr (7, [.int (q7_thrown o0), .ref a0_buffer, .int (q7_length o0), .int (q7_at o0), .int (q7_from o0), .int (q7_kind o0), .int (q7_number o0), .int (q7_wrong o0), .ref a0_now, .ref a0_made, .ref a0_history, .ref a0_saved, .int (q7_entries o0), .int (q7_isSaved o0), .ref a0_closed, .ref a0_faces, .ref a0_rankOf, .ref a0_placeOf, .int (q7_faceMany o0), .int (q7_isLaid o0), .ref a0_counted, .ref a0_steps, .ref a0_onto, .ref a0_goes, .int (q7_found o0), .int (q7_images o0), .ref a0_firstImage, .int (q7_gathered o0)])), (a0_made, .inl (zI Z, 12, .inl (q7_made r8)))] rfl (by decide) (Nat.le_of_ble_eq_true rfl) (by rw [hR]; exact Nat.le_of_ble_eq_true rfl) (by rw [hR]; exact Nat.le_of_ble_eq_true rfl) ⟨by rw [hR]; exact Nat.le_of_ble_eq_true rfl, by rw [hR]; exact Nat.le_of_ble_eq_true rfl⟩ rfl dX7_makeSimplex_23 ?_
    refine g_iinc C (v3.1 + 1) dX7_makeSimplex_26 2 rfl rfl (by decide) [(2, .int (v3.1 + 1)), (0, .ref a0), (1, .int p1)] rfl ?_
    refine g_goto C 7 dX7_makeSimplex_29 (by decide) ?_
    refine g_lv [1, 2, 0] [(0, .ref a0), (1, .int p1), (2, .int (v3.1 + 1))] rfl ?_
    exact hk1 ((v3.1 + 1), (q7_made r8)) (Option.some.inj h).symm
def fX7_makeCycle_L7 (o0 : OX7) (p1 : Int32) (v3 : Int32 × (Nat → Int32)) : Option ((Int32 × (Nat → Int32)) ⊕ (OX7)) :=
  if p1 ≤ v3.1 then (ex (some (s7_made o0 v3.2)))
  else (ck (ne0 p1) ((fX7_add (s7_made o0 v3.2) ((jshl 1 v3.1) ||| (jshl 1 (jrem (v3.1 + 1) p1)))).bind fun r7 =>
  (some (.inl ((v3.1 + 1), (q7_made r7))))))
def fX7_makeCycle (o0 : OX7) (p1 : Int32) : Option (OX7) :=
  (fX7_begin o0 p1).bind fun r1 =>
  (lp (fX7_makeCycle_L7 o0 p1) lpN (0, (q7_made r1)))
theorem myX7_makeCycle : MYv yX7_makeCycle cX7_makeCycle 3 none 1 := ⟨mw_6_24, ms_46, mw_6_25, mw_1_9, ⟨by decide +kernel, by decide +kernel⟩, by decide +kernel⟩
set_option maxRecDepth 100000 in
set_option maxHeartbeats 4000000 in
theorem kX7_makeCycle (l : Launch) (Z : GZ) (a0 a0_buffer a0_now a0_made a0_history a0_saved a0_closed a0_faces a0_rankOf a0_placeOf a0_counted a0_steps a0_onto a0_goes a0_firstImage : Nat) (o0 : OX7) (p1 : Int32) (res : OX7) (h : fX7_makeCycle o0 p1 = some res) : MV l Z yX7_makeCycle cX7_makeCycle 3 1 21 [.ref a0, .int p1] [(a0, .inr (7, [.int (q7_thrown o0), .ref a0_buffer, .int (q7_length o0), .int (q7_at o0), .int (q7_from o0), .int (q7_kind o0), .int (q7_number o0), .int (q7_wrong o0), .ref a0_now, .ref a0_made, .ref a0_history, .ref a0_saved, .int (q7_entries o0), .int (q7_isSaved o0), .ref a0_closed, .ref a0_faces, .ref a0_rankOf, .ref a0_placeOf, .int (q7_faceMany o0), .int (q7_isLaid o0), .ref a0_counted, .ref a0_steps, .ref a0_onto, .ref a0_goes, .int (q7_found o0), .int (q7_images o0), .ref a0_firstImage, .int (q7_gathered o0)])), (a0_made, .inl (zI Z, 12, .inl (q7_made o0)))] [(a0, .inr (7, [.int (q7_thrown o0), .ref a0_buffer, .int (q7_length o0), .int (q7_at o0), .int (q7_from o0), .int (q7_kind o0), .int (q7_number o0), .int (q7_wrong o0), .ref a0_now, .ref a0_made, .ref a0_history, .ref a0_saved, .int (q7_entries o0), .int (q7_isSaved o0), .ref a0_closed, .ref a0_faces, .ref a0_rankOf, .ref a0_placeOf, .int (q7_faceMany o0), .int (q7_isLaid o0), .ref a0_counted, .ref a0_steps, .ref a0_onto, .ref a0_goes, .int (q7_found o0), .int (q7_images o0), .ref a0_firstImage, .int (q7_gathered o0)])), (a0_made, .inl (zI Z, 12, .inl (q7_made res)))] := by
  refine MV_of (by decide +kernel) (Nat.le_of_ble_eq_true rfl) (fun {p e s m args below meth c} A R hR Q hQ C hr hlk => ?_)
  unfold fX7_makeCycle at h
  refine g_lv [0, 1] [(0, .ref a0), (1, .int p1)] rfl ?_
  refine g_aload_n C dX7_makeCycle_0 rfl 0 rfl ?_
  refine g_iload_n C dX7_makeCycle_1 rfl 1 rfl ?_
  obtain ⟨r1, hr2, h⟩ := bd_of h
  refine g_callVv C (kX7_begin l Z a0 a0_buffer a0_now a0_made a0_history a0_saved a0_closed a0_faces a0_rankOf a0_placeOf a0_counted a0_steps a0_onto a0_goes a0_firstImage o0 p1 r1 hr2) 0 rfl (ci := 7) rfl rfl myX7_begin 123 mw_6_5 rfl [0, 1] [] [0, 1] (wr := []) rfl rfl (by decide) (by decide) (by decide) [(a0, .inr (7, [.int (q7_thrown o0), .ref a0_buffer, .int (q7_length o0), .int (q7_at o0), .int (q7_from o0), .int (q7_kind o0), .int (q7_number o0), .int (q7_wrong o0), .ref a0_now, .ref a0_made, .ref a0_history, .ref a0_saved, .int (q7_entries o0), .int (q7_isSaved o0), .ref a0_closed, .ref a0_faces, .ref a0_rankOf, .ref a0_placeOf, .int (q7_faceMany o0), .int (q7_isLaid o0), .ref a0_counted, .ref a0_steps, .ref a0_onto, .ref a0_goes, .int (q7_found o0), .int (q7_images o0), .ref a0_firstImage, .int (q7_gathered o0)])), (a0_made, .inl (zI Z, 12, .inl (q7_made r1)))] rfl (by decide) (Nat.le_of_ble_eq_true rfl) (by rw [hR]; exact Nat.le_of_ble_eq_true rfl) (by rw [hR]; exact Nat.le_of_ble_eq_true rfl) ⟨by rw [hR]; exact Nat.le_of_ble_eq_true rfl, by rw [hR]; exact Nat.le_of_ble_eq_true rfl⟩ rfl dX7_makeCycle_2 ?_
  refine g_iconst C 0 dX7_makeCycle_5 (by decide) ?_
  refine g_istore_n C dX7_makeCycle_6 rfl (by decide) [(2, .int 0), (0, .ref a0), (1, .int p1)] rfl ?_
  refine g_lv [1, 2, 0] [(0, .ref a0), (1, .int p1), (2, .int 0)] rfl ?_
  refine g_loop (lvf := fun v3 => [(0, .ref a0), (1, .int p1), (2, .int v3.1)]) (wsf := fun v3 => [(a0, .inr (7, [.int (q7_thrown o0), .ref a0_buffer, .int (q7_length o0), .int (q7_at o0), .int (q7_from o0), .int (q7_kind o0), .int (q7_number o0), .int (q7_wrong o0), .ref a0_now, .ref a0_made, .ref a0_history, .ref a0_saved, .int (q7_entries o0), .int (q7_isSaved o0), .ref a0_closed, .ref a0_faces, .ref a0_rankOf, .ref a0_placeOf, .int (q7_faceMany o0), .int (q7_isLaid o0), .ref a0_counted, .ref a0_steps, .ref a0_onto, .ref a0_goes, .int (q7_found o0), .int (q7_images o0), .ref a0_firstImage, .int (q7_gathered o0)])), (a0_made, .inl (zI Z, 12, .inl v3.2))]) h (fun v3 y1 h hk1 hx1 => ?_)
  refine g_eq (lv1 := [(0, .ref a0), (1, .int p1), (2, .int v3.1)]) (st1 := []) (ws1 := [(a0, .inr (7, [.int (q7_thrown o0), .ref a0_buffer, .int (q7_length o0), .int (q7_at o0), .int (q7_from o0), .int (q7_kind o0), .int (q7_number o0), .int (q7_wrong o0), .ref a0_now, .ref a0_made, .ref a0_history, .ref a0_saved, .int (q7_entries o0), .int (q7_isSaved o0), .ref a0_closed, .ref a0_faces, .ref a0_rankOf, .ref a0_placeOf, .int (q7_faceMany o0), .int (q7_isLaid o0), .ref a0_counted, .ref a0_steps, .ref a0_onto, .ref a0_goes, .int (q7_found o0), .int (q7_images o0), .ref a0_firstImage, .int (q7_gathered o0)])), (a0_made, .inl (zI Z, 12, .inl v3.2))]) rfl rfl rfl rfl ?_
  unfold fX7_makeCycle_L7 at h
  refine g_iload_n C dX7_makeCycle_7 rfl 2 rfl ?_
  refine g_iload_n C dX7_makeCycle_8 rfl 1 rfl ?_
  refine g_icmp_ge C 33 dX7_makeCycle_9 (by decide) (fun c4 => ?_) (fun c4 => ?_)
  · replace h := it_t c4 h
    obtain ⟨r5, h, hy⟩ := ex_of h
    rw [hx1 r5 hy] at h
    obtain rfl := Option.some.inj h
    subst hQ
    exact g_vret C hr hlk dX7_makeCycle_33 [0, 1] rfl (by decide)
  · replace h := it_f c4 h
    refine g_aload_n C dX7_makeCycle_12 rfl 0 rfl ?_
    refine g_iconst C 1 dX7_makeCycle_13 (by decide) ?_
    refine g_iload_n C dX7_makeCycle_14 rfl 2 rfl ?_
    refine g_ishl C dX7_makeCycle_15 ?_
    refine g_iconst C 1 dX7_makeCycle_16 (by decide) ?_
    refine g_iload_n C dX7_makeCycle_17 rfl 2 rfl ?_
    refine g_iconst C 1 dX7_makeCycle_18 (by decide) ?_
    refine g_iadd C dX7_makeCycle_19 ?_
    refine g_iload_n C dX7_makeCycle_20 rfl 1 rfl ?_
    obtain ⟨hn6, h⟩ := ck_of h
    refine g_irem C dX7_makeCycle_21 (ne0_of hn6) ?_
    refine g_ishl C dX7_makeCycle_22 ?_
    refine g_ior C dX7_makeCycle_23 ?_
    obtain ⟨r7, hr8, h⟩ := bd_of h
    refine g_callVv C (kX7_add l Z a0 a0_buffer a0_now a0_made a0_history a0_saved a0_closed a0_faces a0_rankOf a0_placeOf a0_counted a0_steps a0_onto a0_goes a0_firstImage (s7_made o0 v3.2) ((jshl 1 v3.1) ||| (jshl 1 (jrem (v3.1 + 1) p1))) r7 hr8) 0 rfl (ci := 7) rfl rfl myX7_add 130 mw_6_17 rfl [0, 1] [] [0, 1] (wr := []) rfl rfl (by decide) (by decide) (by decide) [(a0, .inr (7, [.int (q7_thrown o0), .ref a0_buffer, .int (q7_length o0), .int (q7_at o0), .int (q7_from o0), .int (q7_kind o0), .int (q7_number o0), .int (q7_wrong o0), .ref a0_now, .ref a0_made, .ref a0_history, .ref a0_saved, .int (q7_entries o0), .int (q7_isSaved o0), .ref a0_closed, .ref a0_faces, .ref a0_rankOf, .ref a0_placeOf, .int (q7_faceMany o0), .int (q7_isLaid o0), .ref a0_counted, .ref a0_steps, .ref a0_onto, .ref a0_goes, .int (q7_found o0), .int (q7_images o0), .ref a0_firstImage, .int (q7_gathered o0)])), (a0_made, .inl (zI Z, 12, .inl (q7_made r7)))] rfl (by decide) (Nat.le_of_ble_eq_true rfl) (by rw [hR]; exact Nat.le_of_ble_eq_true rfl) (by rw [hR]; exact Nat.le_of_ble_eq_true rfl) ⟨by rw [hR]; exact Nat.le_of_ble_eq_true rfl, by rw [hR]; exact Nat.le_of_ble_eq_true rfl⟩ rfl dX7_makeCycle_24 ?_
    refine g_iinc C (v3.1 + 1) dX7_makeCycle_27 2 rfl rfl (by decide) [(2, .int (v3.1 + 1)), (0, .ref a0), (1, .int p1)] rfl ?_
    refine g_goto C 7 dX7_makeCycle_30 (by decide) ?_
    refine g_lv [1, 2, 0] [(0, .ref a0), (1, .int p1), (2, .int (v3.1 + 1))] rfl ?_
    exact hk1 ((v3.1 + 1), (q7_made r7)) (Option.some.inj h).symm
def fX7_makeCube_L21 (o0 : OX7) (p1 : Int32) (v3 : Int32 × (Nat → Int32)) (v6 : Int32 × Int32) : Option ((Int32 × Int32) ⊕ ((Int32 × (Nat → Int32)) ⊕ (OX7))) :=
  if (jshl 1 p1) ≤ v6.2 then (ex ((fX7_add (s7_made o0 v3.2) v6.1).bind fun r9 =>
  (some (.inl ((v3.1 + 1), (q7_made r9))))))
  else (if ((jshr v6.2 (v3.1 / 2)) &&& 1) = (jrem v3.1 2) then (some (.inl ((v6.1 ||| (jshl 1 v6.2)), (v6.2 + 1))))
  else (some (.inl ((v6.1 ||| 0), (v6.2 + 1)))))
def fX7_makeCube_L9 (o0 : OX7) (p1 : Int32) (v3 : Int32 × (Nat → Int32)) : Option ((Int32 × (Nat → Int32)) ⊕ (OX7)) :=
  if (2 * p1) ≤ v3.1 then (ex (some (s7_made o0 v3.2)))
  else (lp (fX7_makeCube_L21 o0 p1 v3) lpN (0, 0))
def fX7_makeCube (o0 : OX7) (p1 : Int32) : Option (OX7) :=
  (fX7_begin o0 (jshl 1 p1)).bind fun r1 =>
  (lp (fX7_makeCube_L9 o0 p1) lpN (0, (q7_made r1)))
theorem myX7_makeCube : MYv yX7_makeCube cX7_makeCube 5 none 1 := ⟨mw_6_29, ms_47, mw_6_30, mw_1_9, ⟨by decide +kernel, by decide +kernel⟩, by decide +kernel⟩
set_option maxRecDepth 100000 in
set_option maxHeartbeats 4000000 in
theorem kX7_makeCube (l : Launch) (Z : GZ) (a0 a0_buffer a0_now a0_made a0_history a0_saved a0_closed a0_faces a0_rankOf a0_placeOf a0_counted a0_steps a0_onto a0_goes a0_firstImage : Nat) (o0 : OX7) (p1 : Int32) (res : OX7) (h : fX7_makeCube o0 p1 = some res) : MV l Z yX7_makeCube cX7_makeCube 5 1 21 [.ref a0, .int p1] [(a0, .inr (7, [.int (q7_thrown o0), .ref a0_buffer, .int (q7_length o0), .int (q7_at o0), .int (q7_from o0), .int (q7_kind o0), .int (q7_number o0), .int (q7_wrong o0), .ref a0_now, .ref a0_made, .ref a0_history, .ref a0_saved, .int (q7_entries o0), .int (q7_isSaved o0), .ref a0_closed, .ref a0_faces, .ref a0_rankOf, .ref a0_placeOf, .int (q7_faceMany o0), .int (q7_isLaid o0), .ref a0_counted, .ref a0_steps, .ref a0_onto, .ref a0_goes, .int (q7_found o0), .int (q7_images o0), .ref a0_firstImage, .int (q7_gathered o0)])), (a0_made, .inl (zI Z, 12, .inl (q7_made o0)))] [(a0, .inr (7, [.int (q7_thrown o0), .ref a0_buffer, .int (q7_length o0), .int (q7_at o0), .int (q7_from o0), .int (q7_kind o0), .int (q7_number o0), .int (q7_wrong o0), .ref a0_now, .ref a0_made, .ref a0_history, .ref a0_saved, .int (q7_entries o0), .int (q7_isSaved o0), .ref a0_closed, .ref a0_faces, .ref a0_rankOf, .ref a0_placeOf, .int (q7_faceMany o0), .int (q7_isLaid o0), .ref a0_counted, .ref a0_steps, .ref a0_onto, .ref a0_goes, .int (q7_found o0), .int (q7_images o0), .ref a0_firstImage, .int (q7_gathered o0)])), (a0_made, .inl (zI Z, 12, .inl (q7_made res)))] := by
  refine MV_of (by decide +kernel) (Nat.le_of_ble_eq_true rfl) (fun {p e s m args below meth c} A R hR Q hQ C hr hlk => ?_)
  unfold fX7_makeCube at h
  refine g_lv [0, 1] [(0, .ref a0), (1, .int p1)] rfl ?_
  refine g_aload_n C dX7_makeCube_0 rfl 0 rfl ?_
  refine g_iconst C 1 dX7_makeCube_1 (by decide) ?_
  refine g_iload_n C dX7_makeCube_2 rfl 1 rfl ?_
  refine g_ishl C dX7_makeCube_3 ?_
  obtain ⟨r1, hr2, h⟩ := bd_of h
  refine g_callVv C (kX7_begin l Z a0 a0_buffer a0_now a0_made a0_history a0_saved a0_closed a0_faces a0_rankOf a0_placeOf a0_counted a0_steps a0_onto a0_goes a0_firstImage o0 (jshl 1 p1) r1 hr2) 0 rfl (ci := 7) rfl rfl myX7_begin 123 mw_6_5 rfl [0, 1] [] [0, 1] (wr := []) rfl rfl (by decide) (by decide) (by decide) [(a0, .inr (7, [.int (q7_thrown o0), .ref a0_buffer, .int (q7_length o0), .int (q7_at o0), .int (q7_from o0), .int (q7_kind o0), .int (q7_number o0), .int (q7_wrong o0), .ref a0_now, .ref a0_made, .ref a0_history, .ref a0_saved, .int (q7_entries o0), .int (q7_isSaved o0), .ref a0_closed, .ref a0_faces, .ref a0_rankOf, .ref a0_placeOf, .int (q7_faceMany o0), .int (q7_isLaid o0), .ref a0_counted, .ref a0_steps, .ref a0_onto, .ref a0_goes, .int (q7_found o0), .int (q7_images o0), .ref a0_firstImage, .int (q7_gathered o0)])), (a0_made, .inl (zI Z, 12, .inl (q7_made r1)))] rfl (by decide) (Nat.le_of_ble_eq_true rfl) (by rw [hR]; exact Nat.le_of_ble_eq_true rfl) (by rw [hR]; exact Nat.le_of_ble_eq_true rfl) ⟨by rw [hR]; exact Nat.le_of_ble_eq_true rfl, by rw [hR]; exact Nat.le_of_ble_eq_true rfl⟩ rfl dX7_makeCube_4 ?_
  refine g_iconst C 0 dX7_makeCube_7 (by decide) ?_
  refine g_istore_n C dX7_makeCube_8 rfl (by decide) [(2, .int 0), (0, .ref a0), (1, .int p1)] rfl ?_
  refine g_lv [1, 2, 0] [(0, .ref a0), (1, .int p1), (2, .int 0)] rfl ?_
  refine g_loop (lvf := fun v3 => [(0, .ref a0), (1, .int p1), (2, .int v3.1)]) (wsf := fun v3 => [(a0, .inr (7, [.int (q7_thrown o0), .ref a0_buffer, .int (q7_length o0), .int (q7_at o0), .int (q7_from o0), .int (q7_kind o0), .int (q7_number o0), .int (q7_wrong o0), .ref a0_now, .ref a0_made, .ref a0_history, .ref a0_saved, .int (q7_entries o0), .int (q7_isSaved o0), .ref a0_closed, .ref a0_faces, .ref a0_rankOf, .ref a0_placeOf, .int (q7_faceMany o0), .int (q7_isLaid o0), .ref a0_counted, .ref a0_steps, .ref a0_onto, .ref a0_goes, .int (q7_found o0), .int (q7_images o0), .ref a0_firstImage, .int (q7_gathered o0)])), (a0_made, .inl (zI Z, 12, .inl v3.2))]) h (fun v3 y1 h hk1 hx1 => ?_)
  refine g_eq (lv1 := [(0, .ref a0), (1, .int p1), (2, .int v3.1)]) (st1 := []) (ws1 := [(a0, .inr (7, [.int (q7_thrown o0), .ref a0_buffer, .int (q7_length o0), .int (q7_at o0), .int (q7_from o0), .int (q7_kind o0), .int (q7_number o0), .int (q7_wrong o0), .ref a0_now, .ref a0_made, .ref a0_history, .ref a0_saved, .int (q7_entries o0), .int (q7_isSaved o0), .ref a0_closed, .ref a0_faces, .ref a0_rankOf, .ref a0_placeOf, .int (q7_faceMany o0), .int (q7_isLaid o0), .ref a0_counted, .ref a0_steps, .ref a0_onto, .ref a0_goes, .int (q7_found o0), .int (q7_images o0), .ref a0_firstImage, .int (q7_gathered o0)])), (a0_made, .inl (zI Z, 12, .inl v3.2))]) rfl rfl rfl rfl ?_
  unfold fX7_makeCube_L9 at h
  refine g_iload_n C dX7_makeCube_9 rfl 2 rfl ?_
  refine g_iconst C 2 dX7_makeCube_10 (by decide) ?_
  refine g_iload_n C dX7_makeCube_11 rfl 1 rfl ?_
  refine g_imul C dX7_makeCube_12 ?_
  refine g_icmp_ge C 71 dX7_makeCube_13 (by decide) (fun c4 => ?_) (fun c4 => ?_)
  · replace h := it_t c4 h
    obtain ⟨r5, h, hy⟩ := ex_of h
    rw [hx1 r5 hy] at h
    obtain rfl := Option.some.inj h
    subst hQ
    exact g_vret C hr hlk dX7_makeCube_71 [0, 1] rfl (by decide)
  · replace h := it_f c4 h
    refine g_iconst C 0 dX7_makeCube_16 (by decide) ?_
    refine g_istore_n C dX7_makeCube_17 rfl (by decide) [(3, .int 0), (0, .ref a0), (1, .int p1), (2, .int v3.1)] rfl ?_
    refine g_iconst C 0 dX7_makeCube_18 (by decide) ?_
    refine g_istore C dX7_makeCube_19 (by decide) [(4, .int 0), (3, .int 0), (0, .ref a0), (1, .int p1), (2, .int v3.1)] rfl ?_
    refine g_lv [2, 3, 4, 1, 0] [(0, .ref a0), (1, .int p1), (2, .int v3.1), (3, .int 0), (4, .int 0)] rfl ?_
    refine g_loop (lvf := fun v6 => [(0, .ref a0), (1, .int p1), (2, .int v3.1), (3, .int v6.1), (4, .int v6.2)]) (wsf := fun v6 => [(a0, .inr (7, [.int (q7_thrown o0), .ref a0_buffer, .int (q7_length o0), .int (q7_at o0), .int (q7_from o0), .int (q7_kind o0), .int (q7_number o0), .int (q7_wrong o0), .ref a0_now, .ref a0_made, .ref a0_history, .ref a0_saved, .int (q7_entries o0), .int (q7_isSaved o0), .ref a0_closed, .ref a0_faces, .ref a0_rankOf, .ref a0_placeOf, .int (q7_faceMany o0), .int (q7_isLaid o0), .ref a0_counted, .ref a0_steps, .ref a0_onto, .ref a0_goes, .int (q7_found o0), .int (q7_images o0), .ref a0_firstImage, .int (q7_gathered o0)])), (a0_made, .inl (zI Z, 12, .inl v3.2))]) h (fun v6 y2 h hk2 hx2 => ?_)
    refine g_eq (lv1 := [(0, .ref a0), (1, .int p1), (2, .int v3.1), (3, .int v6.1), (4, .int v6.2)]) (st1 := []) (ws1 := [(a0, .inr (7, [.int (q7_thrown o0), .ref a0_buffer, .int (q7_length o0), .int (q7_at o0), .int (q7_from o0), .int (q7_kind o0), .int (q7_number o0), .int (q7_wrong o0), .ref a0_now, .ref a0_made, .ref a0_history, .ref a0_saved, .int (q7_entries o0), .int (q7_isSaved o0), .ref a0_closed, .ref a0_faces, .ref a0_rankOf, .ref a0_placeOf, .int (q7_faceMany o0), .int (q7_isLaid o0), .ref a0_counted, .ref a0_steps, .ref a0_onto, .ref a0_goes, .int (q7_found o0), .int (q7_images o0), .ref a0_firstImage, .int (q7_gathered o0)])), (a0_made, .inl (zI Z, 12, .inl v3.2))]) rfl rfl rfl rfl ?_
    unfold fX7_makeCube_L21 at h
    refine g_iload C dX7_makeCube_21 4 rfl ?_
    refine g_iconst C 1 dX7_makeCube_23 (by decide) ?_
    refine g_iload_n C dX7_makeCube_24 rfl 1 rfl ?_
    refine g_ishl C dX7_makeCube_25 ?_
    refine g_icmp_ge C 60 dX7_makeCube_26 (by decide) (fun c7 => ?_) (fun c7 => ?_)
    · replace h := it_t c7 h
      obtain ⟨r8, h, hy⟩ := ex_of h
      rw [hx2 r8 hy] at h
      refine g_aload_n C dX7_makeCube_60 rfl 0 rfl ?_
      refine g_iload_n C dX7_makeCube_61 rfl 3 rfl ?_
      obtain ⟨r9, hr10, h⟩ := bd_of h
      refine g_callVv C (kX7_add l Z a0 a0_buffer a0_now a0_made a0_history a0_saved a0_closed a0_faces a0_rankOf a0_placeOf a0_counted a0_steps a0_onto a0_goes a0_firstImage (s7_made o0 v3.2) v6.1 r9 hr10) 0 rfl (ci := 7) rfl rfl myX7_add 130 mw_6_17 rfl [0, 1] [] [0, 1] (wr := []) rfl rfl (by decide) (by decide) (by decide) [(a0, .inr (7, [.int (q7_thrown o0), .ref a0_buffer, .int (q7_length o0), .int (q7_at o0), .int (q7_from o0), .int (q7_kind o0), .int (q7_number o0), .int (q7_wrong o0), .ref a0_now, .ref a0_made, .ref a0_history, .ref a0_saved, .int (q7_entries o0), .int (q7_isSaved o0), .ref a0_closed, .ref a0_faces, .ref a0_rankOf, .ref a0_placeOf, .int (q7_faceMany o0), .int (q7_isLaid o0), .ref a0_counted, .ref a0_steps, .ref a0_onto, .ref a0_goes, .int (q7_found o0), .int (q7_images o0), .ref a0_firstImage, .int (q7_gathered o0)])), (a0_made, .inl (zI Z, 12, .inl (q7_made r9)))] rfl (by decide) (Nat.le_of_ble_eq_true rfl) (by rw [hR]; exact Nat.le_of_ble_eq_true rfl) (by rw [hR]; exact Nat.le_of_ble_eq_true rfl) ⟨by rw [hR]; exact Nat.le_of_ble_eq_true rfl, by rw [hR]; exact Nat.le_of_ble_eq_true rfl⟩ rfl dX7_makeCube_62 ?_
      refine g_iinc C (v3.1 + 1) dX7_makeCube_65 2 rfl rfl (by decide) [(2, .int (v3.1 + 1)), (0, .ref a0), (1, .int p1), (3, .int v6.1), (4, .int v6.2)] rfl ?_
      refine g_goto C 9 dX7_makeCube_68 (by decide) ?_
      refine g_lv [1, 2, 0] [(0, .ref a0), (1, .int p1), (2, .int (v3.1 + 1))] rfl ?_
      exact hk1 ((v3.1 + 1), (q7_made r9)) (Option.some.inj h).symm
    · replace h := it_f c7 h
      refine g_iload_n C dX7_makeCube_29 rfl 3 rfl ?_
      refine g_iload C dX7_makeCube_30 4 rfl ?_
      refine g_iload_n C dX7_makeCube_32 rfl 2 rfl ?_
      refine g_iconst C 2 dX7_makeCube_33 (by decide) ?_
      refine g_idiv C dX7_makeCube_34 (by decide) ?_
      refine g_ishr C dX7_makeCube_35 ?_
      refine g_iconst C 1 dX7_makeCube_36 (by decide) ?_
      refine g_iand C dX7_makeCube_37 ?_
      refine g_iload_n C dX7_makeCube_38 rfl 2 rfl ?_
      refine g_iconst C 2 dX7_makeCube_39 (by decide) ?_
      refine g_irem C dX7_makeCube_40 (by decide) ?_
      refine g_icmp_ne C 51 dX7_makeCube_41 (by decide) (fun c11 => ?_) (fun c11 => ?_)
      · replace h := it_f c11 h
        refine g_iconst C 0 dX7_makeCube_51 (by decide) ?_
        refine g_ior C dX7_makeCube_52 ?_
        refine g_istore_n C dX7_makeCube_53 rfl (by decide) [(3, .int (v6.1 ||| 0)), (0, .ref a0), (1, .int p1), (2, .int v3.1), (4, .int v6.2)] rfl ?_
        refine g_iinc C (v6.2 + 1) dX7_makeCube_54 4 rfl rfl (by decide) [(4, .int (v6.2 + 1)), (3, .int (v6.1 ||| 0)), (0, .ref a0), (1, .int p1), (2, .int v3.1)] rfl ?_
        refine g_goto C 21 dX7_makeCube_57 (by decide) ?_
        refine g_lv [2, 3, 4, 1, 0] [(0, .ref a0), (1, .int p1), (2, .int v3.1), (3, .int (v6.1 ||| 0)), (4, .int (v6.2 + 1))] rfl ?_
        exact hk2 ((v6.1 ||| 0), (v6.2 + 1)) (Option.some.inj h).symm
      · replace h := it_t c11 h
        refine g_iconst C 1 dX7_makeCube_44 (by decide) ?_
        refine g_iload C dX7_makeCube_45 4 rfl ?_
        refine g_ishl C dX7_makeCube_47 ?_
        refine g_goto C 52 dX7_makeCube_48 (by decide) ?_
        refine g_ior C dX7_makeCube_52 ?_
        refine g_istore_n C dX7_makeCube_53 rfl (by decide) [(3, .int (v6.1 ||| (jshl 1 v6.2))), (0, .ref a0), (1, .int p1), (2, .int v3.1), (4, .int v6.2)] rfl ?_
        refine g_iinc C (v6.2 + 1) dX7_makeCube_54 4 rfl rfl (by decide) [(4, .int (v6.2 + 1)), (3, .int (v6.1 ||| (jshl 1 v6.2))), (0, .ref a0), (1, .int p1), (2, .int v3.1)] rfl ?_
        refine g_goto C 21 dX7_makeCube_57 (by decide) ?_
        refine g_lv [2, 3, 4, 1, 0] [(0, .ref a0), (1, .int p1), (2, .int v3.1), (3, .int (v6.1 ||| (jshl 1 v6.2))), (4, .int (v6.2 + 1))] rfl ?_
        exact hk2 ((v6.1 ||| (jshl 1 v6.2)), (v6.2 + 1)) (Option.some.inj h).symm
def fX7_makeCross_L21 (o0 : OX7) (p1 : Int32) (v3 : Int32 × (Nat → Int32)) (v6 : Int32 × Int32) : Option ((Int32 × Int32) ⊕ ((Int32 × (Nat → Int32)) ⊕ (OX7))) :=
  if p1 ≤ v6.2 then (ex ((fX7_add (s7_made o0 v3.2) v6.1).bind fun r9 =>
  (some (.inl ((v3.1 + 1), (q7_made r9))))))
  else (some (.inl ((v6.1 ||| (jshl 1 ((2 * v6.2) + ((jshr v3.1 v6.2) &&& 1)))), (v6.2 + 1))))
def fX7_makeCross_L9 (o0 : OX7) (p1 : Int32) (v3 : Int32 × (Nat → Int32)) : Option ((Int32 × (Nat → Int32)) ⊕ (OX7)) :=
  if (jshl 1 p1) ≤ v3.1 then (ex (some (s7_made o0 v3.2)))
  else (lp (fX7_makeCross_L21 o0 p1 v3) lpN (0, 0))
def fX7_makeCross (o0 : OX7) (p1 : Int32) : Option (OX7) :=
  (fX7_begin o0 (2 * p1)).bind fun r1 =>
  (lp (fX7_makeCross_L9 o0 p1) lpN (0, (q7_made r1)))
theorem myX7_makeCross : MYv yX7_makeCross cX7_makeCross 5 none 1 := ⟨mw_6_34, ms_48, mw_6_35, mw_1_9, ⟨by decide +kernel, by decide +kernel⟩, by decide +kernel⟩
set_option maxRecDepth 100000 in
set_option maxHeartbeats 4000000 in
theorem kX7_makeCross (l : Launch) (Z : GZ) (a0 a0_buffer a0_now a0_made a0_history a0_saved a0_closed a0_faces a0_rankOf a0_placeOf a0_counted a0_steps a0_onto a0_goes a0_firstImage : Nat) (o0 : OX7) (p1 : Int32) (res : OX7) (h : fX7_makeCross o0 p1 = some res) : MV l Z yX7_makeCross cX7_makeCross 5 1 21 [.ref a0, .int p1] [(a0, .inr (7, [.int (q7_thrown o0), .ref a0_buffer, .int (q7_length o0), .int (q7_at o0), .int (q7_from o0), .int (q7_kind o0), .int (q7_number o0), .int (q7_wrong o0), .ref a0_now, .ref a0_made, .ref a0_history, .ref a0_saved, .int (q7_entries o0), .int (q7_isSaved o0), .ref a0_closed, .ref a0_faces, .ref a0_rankOf, .ref a0_placeOf, .int (q7_faceMany o0), .int (q7_isLaid o0), .ref a0_counted, .ref a0_steps, .ref a0_onto, .ref a0_goes, .int (q7_found o0), .int (q7_images o0), .ref a0_firstImage, .int (q7_gathered o0)])), (a0_made, .inl (zI Z, 12, .inl (q7_made o0)))] [(a0, .inr (7, [.int (q7_thrown o0), .ref a0_buffer, .int (q7_length o0), .int (q7_at o0), .int (q7_from o0), .int (q7_kind o0), .int (q7_number o0), .int (q7_wrong o0), .ref a0_now, .ref a0_made, .ref a0_history, .ref a0_saved, .int (q7_entries o0), .int (q7_isSaved o0), .ref a0_closed, .ref a0_faces, .ref a0_rankOf, .ref a0_placeOf, .int (q7_faceMany o0), .int (q7_isLaid o0), .ref a0_counted, .ref a0_steps, .ref a0_onto, .ref a0_goes, .int (q7_found o0), .int (q7_images o0), .ref a0_firstImage, .int (q7_gathered o0)])), (a0_made, .inl (zI Z, 12, .inl (q7_made res)))] := by
  refine MV_of (by decide +kernel) (Nat.le_of_ble_eq_true rfl) (fun {p e s m args below meth c} A R hR Q hQ C hr hlk => ?_)
  unfold fX7_makeCross at h
  refine g_lv [0, 1] [(0, .ref a0), (1, .int p1)] rfl ?_
  refine g_aload_n C dX7_makeCross_0 rfl 0 rfl ?_
  refine g_iconst C 2 dX7_makeCross_1 (by decide) ?_
  refine g_iload_n C dX7_makeCross_2 rfl 1 rfl ?_
  refine g_imul C dX7_makeCross_3 ?_
  obtain ⟨r1, hr2, h⟩ := bd_of h
  refine g_callVv C (kX7_begin l Z a0 a0_buffer a0_now a0_made a0_history a0_saved a0_closed a0_faces a0_rankOf a0_placeOf a0_counted a0_steps a0_onto a0_goes a0_firstImage o0 (2 * p1) r1 hr2) 0 rfl (ci := 7) rfl rfl myX7_begin 123 mw_6_5 rfl [0, 1] [] [0, 1] (wr := []) rfl rfl (by decide) (by decide) (by decide) [(a0, .inr (7, [.int (q7_thrown o0), .ref a0_buffer, .int (q7_length o0), .int (q7_at o0), .int (q7_from o0), .int (q7_kind o0), .int (q7_number o0), .int (q7_wrong o0), .ref a0_now, .ref a0_made, .ref a0_history, .ref a0_saved, .int (q7_entries o0), .int (q7_isSaved o0), .ref a0_closed, .ref a0_faces, .ref a0_rankOf, .ref a0_placeOf, .int (q7_faceMany o0), .int (q7_isLaid o0), .ref a0_counted, .ref a0_steps, .ref a0_onto, .ref a0_goes, .int (q7_found o0), .int (q7_images o0), .ref a0_firstImage, .int (q7_gathered o0)])), (a0_made, .inl (zI Z, 12, .inl (q7_made r1)))] rfl (by decide) (Nat.le_of_ble_eq_true rfl) (by rw [hR]; exact Nat.le_of_ble_eq_true rfl) (by rw [hR]; exact Nat.le_of_ble_eq_true rfl) ⟨by rw [hR]; exact Nat.le_of_ble_eq_true rfl, by rw [hR]; exact Nat.le_of_ble_eq_true rfl⟩ rfl dX7_makeCross_4 ?_
  refine g_iconst C 0 dX7_makeCross_7 (by decide) ?_
  refine g_istore_n C dX7_makeCross_8 rfl (by decide) [(2, .int 0), (0, .ref a0), (1, .int p1)] rfl ?_
  refine g_lv [1, 2, 0] [(0, .ref a0), (1, .int p1), (2, .int 0)] rfl ?_
  refine g_loop (lvf := fun v3 => [(0, .ref a0), (1, .int p1), (2, .int v3.1)]) (wsf := fun v3 => [(a0, .inr (7, [.int (q7_thrown o0), .ref a0_buffer, .int (q7_length o0), .int (q7_at o0), .int (q7_from o0), .int (q7_kind o0), .int (q7_number o0), .int (q7_wrong o0), .ref a0_now, .ref a0_made, .ref a0_history, .ref a0_saved, .int (q7_entries o0), .int (q7_isSaved o0), .ref a0_closed, .ref a0_faces, .ref a0_rankOf, .ref a0_placeOf, .int (q7_faceMany o0), .int (q7_isLaid o0), .ref a0_counted, .ref a0_steps, .ref a0_onto, .ref a0_goes, .int (q7_found o0), .int (q7_images o0), .ref a0_firstImage, .int (q7_gathered o0)])), (a0_made, .inl (zI Z, 12, .inl v3.2))]) h (fun v3 y1 h hk1 hx1 => ?_)
  refine g_eq (lv1 := [(0, .ref a0), (1, .int p1), (2, .int v3.1)]) (st1 := []) (ws1 := [(a0, .inr (7, [.int (q7_thrown o0), .ref a0_buffer, .int (q7_length o0), .int (q7_at o0), .int (q7_from o0), .int (q7_kind o0), .int (q7_number o0), .int (q7_wrong o0), .ref a0_now, .ref a0_made, .ref a0_history, .ref a0_saved, .int (q7_entries o0), .int (q7_isSaved o0), .ref a0_closed, .ref a0_faces, .ref a0_rankOf, .ref a0_placeOf, .int (q7_faceMany o0), .int (q7_isLaid o0), .ref a0_counted, .ref a0_steps, .ref a0_onto, .ref a0_goes, .int (q7_found o0), .int (q7_images o0), .ref a0_firstImage, .int (q7_gathered o0)])), (a0_made, .inl (zI Z, 12, .inl v3.2))]) rfl rfl rfl rfl ?_
  unfold fX7_makeCross_L9 at h
  refine g_iload_n C dX7_makeCross_9 rfl 2 rfl ?_
  refine g_iconst C 1 dX7_makeCross_10 (by decide) ?_
  refine g_iload_n C dX7_makeCross_11 rfl 1 rfl ?_
  refine g_ishl C dX7_makeCross_12 ?_
  refine g_icmp_ge C 60 dX7_makeCross_13 (by decide) (fun c4 => ?_) (fun c4 => ?_)
  · replace h := it_t c4 h
    obtain ⟨r5, h, hy⟩ := ex_of h
    rw [hx1 r5 hy] at h
    obtain rfl := Option.some.inj h
    subst hQ
    exact g_vret C hr hlk dX7_makeCross_60 [0, 1] rfl (by decide)
  · replace h := it_f c4 h
    refine g_iconst C 0 dX7_makeCross_16 (by decide) ?_
    refine g_istore_n C dX7_makeCross_17 rfl (by decide) [(3, .int 0), (0, .ref a0), (1, .int p1), (2, .int v3.1)] rfl ?_
    refine g_iconst C 0 dX7_makeCross_18 (by decide) ?_
    refine g_istore C dX7_makeCross_19 (by decide) [(4, .int 0), (3, .int 0), (0, .ref a0), (1, .int p1), (2, .int v3.1)] rfl ?_
    refine g_lv [2, 3, 4, 1, 0] [(0, .ref a0), (1, .int p1), (2, .int v3.1), (3, .int 0), (4, .int 0)] rfl ?_
    refine g_loop (lvf := fun v6 => [(0, .ref a0), (1, .int p1), (2, .int v3.1), (3, .int v6.1), (4, .int v6.2)]) (wsf := fun v6 => [(a0, .inr (7, [.int (q7_thrown o0), .ref a0_buffer, .int (q7_length o0), .int (q7_at o0), .int (q7_from o0), .int (q7_kind o0), .int (q7_number o0), .int (q7_wrong o0), .ref a0_now, .ref a0_made, .ref a0_history, .ref a0_saved, .int (q7_entries o0), .int (q7_isSaved o0), .ref a0_closed, .ref a0_faces, .ref a0_rankOf, .ref a0_placeOf, .int (q7_faceMany o0), .int (q7_isLaid o0), .ref a0_counted, .ref a0_steps, .ref a0_onto, .ref a0_goes, .int (q7_found o0), .int (q7_images o0), .ref a0_firstImage, .int (q7_gathered o0)])), (a0_made, .inl (zI Z, 12, .inl v3.2))]) h (fun v6 y2 h hk2 hx2 => ?_)
    refine g_eq (lv1 := [(0, .ref a0), (1, .int p1), (2, .int v3.1), (3, .int v6.1), (4, .int v6.2)]) (st1 := []) (ws1 := [(a0, .inr (7, [.int (q7_thrown o0), .ref a0_buffer, .int (q7_length o0), .int (q7_at o0), .int (q7_from o0), .int (q7_kind o0), .int (q7_number o0), .int (q7_wrong o0), .ref a0_now, .ref a0_made, .ref a0_history, .ref a0_saved, .int (q7_entries o0), .int (q7_isSaved o0), .ref a0_closed, .ref a0_faces, .ref a0_rankOf, .ref a0_placeOf, .int (q7_faceMany o0), .int (q7_isLaid o0), .ref a0_counted, .ref a0_steps, .ref a0_onto, .ref a0_goes, .int (q7_found o0), .int (q7_images o0), .ref a0_firstImage, .int (q7_gathered o0)])), (a0_made, .inl (zI Z, 12, .inl v3.2))]) rfl rfl rfl rfl ?_
    unfold fX7_makeCross_L21 at h
    refine g_iload C dX7_makeCross_21 4 rfl ?_
    refine g_iload_n C dX7_makeCross_23 rfl 1 rfl ?_
    refine g_icmp_ge C 49 dX7_makeCross_24 (by decide) (fun c7 => ?_) (fun c7 => ?_)
    · replace h := it_t c7 h
      obtain ⟨r8, h, hy⟩ := ex_of h
      rw [hx2 r8 hy] at h
      refine g_aload_n C dX7_makeCross_49 rfl 0 rfl ?_
      refine g_iload_n C dX7_makeCross_50 rfl 3 rfl ?_
      obtain ⟨r9, hr10, h⟩ := bd_of h
      refine g_callVv C (kX7_add l Z a0 a0_buffer a0_now a0_made a0_history a0_saved a0_closed a0_faces a0_rankOf a0_placeOf a0_counted a0_steps a0_onto a0_goes a0_firstImage (s7_made o0 v3.2) v6.1 r9 hr10) 0 rfl (ci := 7) rfl rfl myX7_add 130 mw_6_17 rfl [0, 1] [] [0, 1] (wr := []) rfl rfl (by decide) (by decide) (by decide) [(a0, .inr (7, [.int (q7_thrown o0), .ref a0_buffer, .int (q7_length o0), .int (q7_at o0), .int (q7_from o0), .int (q7_kind o0), .int (q7_number o0), .int (q7_wrong o0), .ref a0_now, .ref a0_made, .ref a0_history, .ref a0_saved, .int (q7_entries o0), .int (q7_isSaved o0), .ref a0_closed, .ref a0_faces, .ref a0_rankOf, .ref a0_placeOf, .int (q7_faceMany o0), .int (q7_isLaid o0), .ref a0_counted, .ref a0_steps, .ref a0_onto, .ref a0_goes, .int (q7_found o0), .int (q7_images o0), .ref a0_firstImage, .int (q7_gathered o0)])), (a0_made, .inl (zI Z, 12, .inl (q7_made r9)))] rfl (by decide) (Nat.le_of_ble_eq_true rfl) (by rw [hR]; exact Nat.le_of_ble_eq_true rfl) (by rw [hR]; exact Nat.le_of_ble_eq_true rfl) ⟨by rw [hR]; exact Nat.le_of_ble_eq_true rfl, by rw [hR]; exact Nat.le_of_ble_eq_true rfl⟩ rfl dX7_makeCross_51 ?_
      refine g_iinc C (v3.1 + 1) dX7_makeCross_54 2 rfl rfl (by decide) [(2, .int (v3.1 + 1)), (0, .ref a0), (1, .int p1), (3, .int v6.1), (4, .int v6.2)] rfl ?_
      refine g_goto C 9 dX7_makeCross_57 (by decide) ?_
      refine g_lv [1, 2, 0] [(0, .ref a0), (1, .int p1), (2, .int (v3.1 + 1))] rfl ?_
      exact hk1 ((v3.1 + 1), (q7_made r9)) (Option.some.inj h).symm
    · replace h := it_f c7 h
      refine g_iload_n C dX7_makeCross_27 rfl 3 rfl ?_
      refine g_iconst C 1 dX7_makeCross_28 (by decide) ?_
      refine g_iconst C 2 dX7_makeCross_29 (by decide) ?_
      refine g_iload C dX7_makeCross_30 4 rfl ?_
      refine g_imul C dX7_makeCross_32 ?_
      refine g_iload_n C dX7_makeCross_33 rfl 2 rfl ?_
      refine g_iload C dX7_makeCross_34 4 rfl ?_
      refine g_ishr C dX7_makeCross_36 ?_
      refine g_iconst C 1 dX7_makeCross_37 (by decide) ?_
      refine g_iand C dX7_makeCross_38 ?_
      refine g_iadd C dX7_makeCross_39 ?_
      refine g_ishl C dX7_makeCross_40 ?_
      refine g_ior C dX7_makeCross_41 ?_
      refine g_istore_n C dX7_makeCross_42 rfl (by decide) [(3, .int (v6.1 ||| (jshl 1 ((2 * v6.2) + ((jshr v3.1 v6.2) &&& 1))))), (0, .ref a0), (1, .int p1), (2, .int v3.1), (4, .int v6.2)] rfl ?_
      refine g_iinc C (v6.2 + 1) dX7_makeCross_43 4 rfl rfl (by decide) [(4, .int (v6.2 + 1)), (3, .int (v6.1 ||| (jshl 1 ((2 * v6.2) + ((jshr v3.1 v6.2) &&& 1))))), (0, .ref a0), (1, .int p1), (2, .int v3.1)] rfl ?_
      refine g_goto C 21 dX7_makeCross_46 (by decide) ?_
      refine g_lv [2, 3, 4, 1, 0] [(0, .ref a0), (1, .int p1), (2, .int v3.1), (3, .int (v6.1 ||| (jshl 1 ((2 * v6.2) + ((jshr v3.1 v6.2) &&& 1))))), (4, .int (v6.2 + 1))] rfl ?_
      exact hk2 ((v6.1 ||| (jshl 1 ((2 * v6.2) + ((jshr v3.1 v6.2) &&& 1)))), (v6.2 + 1)) (Option.some.inj h).symm
def fX7_takeSize (o0 : OX7) (p1 : Int32) (p2 : Int32) : Option (Int32 × OX7) :=
  (fX7_step o0).bind fun r1 =>
  ((fX7_takeNumber (s7_number (s7_kind (s7_from (s7_at o0 (q7_at r1)) (q7_from r1)) (q7_kind r1)) (q7_number r1)) p1 p2).bind fun r3 =>
  (some (r3.1, (s7_wrong (s7_number (s7_kind (s7_from (s7_at o0 (q7_at r3.2)) (q7_from r3.2)) (q7_kind r3.2)) (q7_number r3.2)) (q7_wrong r3.2)))))
theorem myX7_takeSize : MYv yX7_takeSize cX7_takeSize 3 (some .int) 2 := ⟨mw_5_235, ms_40, mw_5_236, mw_1_9, ⟨by decide +kernel, by decide +kernel⟩, by decide +kernel⟩
set_option maxRecDepth 100000 in
set_option maxHeartbeats 4000000 in
theorem kX7_takeSize (l : Launch) (Z : GZ) (a0 a0_buffer a0_now a0_made a0_history a0_saved a0_closed a0_faces a0_rankOf a0_placeOf a0_counted a0_steps a0_onto a0_goes a0_firstImage : Nat) (o0 : OX7) (p1 : Int32) (p2 : Int32) (res : Int32 × OX7) (h : fX7_takeSize o0 p1 p2 = some res) : MI l Z yX7_takeSize cX7_takeSize 3 .int 3 65 [.ref a0, .int p1, .int p2] [(a0, .inr (7, [.int (q7_thrown o0), .ref a0_buffer, .int (q7_length o0), .int (q7_at o0), .int (q7_from o0), .int (q7_kind o0), .int (q7_number o0), .int (q7_wrong o0), .ref a0_now, .ref a0_made, .ref a0_history, .ref a0_saved, .int (q7_entries o0), .int (q7_isSaved o0), .ref a0_closed, .ref a0_faces, .ref a0_rankOf, .ref a0_placeOf, .int (q7_faceMany o0), .int (q7_isLaid o0), .ref a0_counted, .ref a0_steps, .ref a0_onto, .ref a0_goes, .int (q7_found o0), .int (q7_images o0), .ref a0_firstImage, .int (q7_gathered o0)])), (a0_buffer, .inl (zI Z, 300, .inl (q7_buffer o0)))] res.1 [(a0, .inr (7, [.int (q7_thrown o0), .ref a0_buffer, .int (q7_length o0), .int (q7_at res.2), .int (q7_from res.2), .int (q7_kind res.2), .int (q7_number res.2), .int (q7_wrong res.2), .ref a0_now, .ref a0_made, .ref a0_history, .ref a0_saved, .int (q7_entries o0), .int (q7_isSaved o0), .ref a0_closed, .ref a0_faces, .ref a0_rankOf, .ref a0_placeOf, .int (q7_faceMany o0), .int (q7_isLaid o0), .ref a0_counted, .ref a0_steps, .ref a0_onto, .ref a0_goes, .int (q7_found o0), .int (q7_images o0), .ref a0_firstImage, .int (q7_gathered o0)])), (a0_buffer, .inl (zI Z, 300, .inl (q7_buffer o0)))] := by
  refine MI_of (by decide +kernel) (Nat.le_of_ble_eq_true rfl) (fun {p e s m args below meth c} A R hR Q hQ C hr hlk => ?_)
  unfold fX7_takeSize at h
  refine g_lv [0, 1, 2] [(0, .ref a0), (1, .int p1), (2, .int p2)] rfl ?_
  refine g_aload_n C dX7_takeSize_0 rfl 0 rfl ?_
  obtain ⟨r1, hr2, h⟩ := bd_of h
  refine g_callVv C (kX7_step l Z a0 a0_buffer a0_now a0_made a0_history a0_saved a0_closed a0_faces a0_rankOf a0_placeOf a0_counted a0_steps a0_onto a0_goes a0_firstImage o0 r1 hr2) 0 rfl (ci := 7) rfl rfl myX7_step 120 mw_5_200 rfl [0, 1] [] [0, 1] (wr := []) rfl rfl (by decide) (by decide) (by decide) [(a0, .inr (7, [.int (q7_thrown o0), .ref a0_buffer, .int (q7_length o0), .int (q7_at r1), .int (q7_from r1), .int (q7_kind r1), .int (q7_number r1), .int (q7_wrong o0), .ref a0_now, .ref a0_made, .ref a0_history, .ref a0_saved, .int (q7_entries o0), .int (q7_isSaved o0), .ref a0_closed, .ref a0_faces, .ref a0_rankOf, .ref a0_placeOf, .int (q7_faceMany o0), .int (q7_isLaid o0), .ref a0_counted, .ref a0_steps, .ref a0_onto, .ref a0_goes, .int (q7_found o0), .int (q7_images o0), .ref a0_firstImage, .int (q7_gathered o0)])), (a0_buffer, .inl (zI Z, 300, .inl (q7_buffer o0)))] rfl (by decide) (Nat.le_of_ble_eq_true rfl) (by rw [hR]; exact Nat.le_of_ble_eq_true rfl) (by rw [hR]; exact Nat.le_of_ble_eq_true rfl) ⟨by rw [hR]; exact Nat.le_of_ble_eq_true rfl, by rw [hR]; exact Nat.le_of_ble_eq_true rfl⟩ rfl dX7_takeSize_1 ?_
  refine g_aload_n C dX7_takeSize_4 rfl 0 rfl ?_
  refine g_iload_n C dX7_takeSize_5 rfl 1 rfl ?_
  refine g_iload_n C dX7_takeSize_6 rfl 2 rfl ?_
  obtain ⟨r3, hr4, h⟩ := bd_of h
  refine g_callVi C (kX7_takeNumber l Z a0 a0_buffer a0_now a0_made a0_history a0_saved a0_closed a0_faces a0_rankOf a0_placeOf a0_counted a0_steps a0_onto a0_goes a0_firstImage (s7_number (s7_kind (s7_from (s7_at o0 (q7_at r1)) (q7_from r1)) (q7_kind r1)) (q7_number r1)) p1 p2 r3 hr4) 0 rfl (ci := 7) rfl rfl myX7_takeNumber 133 mw_5_237 rfl [0, 1] [] [0, 1] (wr := []) rfl rfl (by decide) (by decide) (by decide) [(a0, .inr (7, [.int (q7_thrown o0), .ref a0_buffer, .int (q7_length o0), .int (q7_at r3.2), .int (q7_from r3.2), .int (q7_kind r3.2), .int (q7_number r3.2), .int (q7_wrong r3.2), .ref a0_now, .ref a0_made, .ref a0_history, .ref a0_saved, .int (q7_entries o0), .int (q7_isSaved o0), .ref a0_closed, .ref a0_faces, .ref a0_rankOf, .ref a0_placeOf, .int (q7_faceMany o0), .int (q7_isLaid o0), .ref a0_counted, .ref a0_steps, .ref a0_onto, .ref a0_goes, .int (q7_found o0), .int (q7_images o0), .ref a0_firstImage, .int (q7_gathered o0)])), (a0_buffer, .inl (zI Z, 300, .inl (q7_buffer o0)))] rfl (by decide) (Nat.le_of_ble_eq_true rfl) (by rw [hR]; exact Nat.le_of_ble_eq_true rfl) (by rw [hR]; exact Nat.le_of_ble_eq_true rfl) ⟨by rw [hR]; exact Nat.le_of_ble_eq_true rfl, by rw [hR]; exact Nat.le_of_ble_eq_true rfl⟩ rfl dX7_takeSize_7 ?_
  obtain rfl := Option.some.inj h
  subst hQ
  exact g_iret C rfl hr hlk dX7_takeSize_10 [0, 1] rfl (by decide)
def fX7_takePoint_J55 (o0 : OX7) (x1 : Int32) : Option (Int32 × OX7) :=
  (fX7_takeNumber (s7_wrong o0 x1) 0 (((q7_made o0) (ix 0)) - 1)).bind fun r2 =>
  (some (r2.1, (s7_wrong (s7_number (s7_kind (s7_from (s7_at o0 (q7_at r2.2)) (q7_from r2.2)) (q7_kind r2.2)) (q7_number r2.2)) (q7_wrong r2.2))))
def fX7_takePoint (o0 : OX7) (p1 : Int32) : Option (Int32 × OX7) :=
  if (q7_kind o0) = 2 then (if 4 < ((q7_at o0) - (q7_from o0)) then (fX7_takePoint_J55 o0 (q7_wrong o0))
  else ((fX7_in (q7_number o0) 0 (((q7_made o0) (ix 0)) - 1)).bind fun r6 =>
  (if r6 = 0 then (fX7_takePoint_J55 o0 (q7_wrong o0))
  else ((fX7_has p1 (q7_number o0)).bind fun r9 =>
  (if r9 = 0 then (fX7_takePoint_J55 o0 (q7_wrong o0))
  else ((fX7_fail o0).bind fun r12 =>
  (fX7_takePoint_J55 o0 (q7_wrong r12))))))))
  else (fX7_takePoint_J55 o0 (q7_wrong o0))
theorem myX7_takePoint : MYv yX7_takePoint cX7_takePoint 2 (some .int) 1 := ⟨mw_6_43, ms_50, mw_6_44, mw_1_9, ⟨by decide +kernel, by decide +kernel⟩, by decide +kernel⟩
set_option maxRecDepth 100000 in
set_option maxHeartbeats 4000000 in
theorem kX7_takePoint (l : Launch) (Z : GZ) (a0 a0_buffer a0_now a0_made a0_history a0_saved a0_closed a0_faces a0_rankOf a0_placeOf a0_counted a0_steps a0_onto a0_goes a0_firstImage : Nat) (o0 : OX7) (p1 : Int32) (res : Int32 × OX7) (h : fX7_takePoint o0 p1 = some res) : MI l Z yX7_takePoint cX7_takePoint 2 .int 3 65 [.ref a0, .int p1] [(a0, .inr (7, [.int (q7_thrown o0), .ref a0_buffer, .int (q7_length o0), .int (q7_at o0), .int (q7_from o0), .int (q7_kind o0), .int (q7_number o0), .int (q7_wrong o0), .ref a0_now, .ref a0_made, .ref a0_history, .ref a0_saved, .int (q7_entries o0), .int (q7_isSaved o0), .ref a0_closed, .ref a0_faces, .ref a0_rankOf, .ref a0_placeOf, .int (q7_faceMany o0), .int (q7_isLaid o0), .ref a0_counted, .ref a0_steps, .ref a0_onto, .ref a0_goes, .int (q7_found o0), .int (q7_images o0), .ref a0_firstImage, .int (q7_gathered o0)])), (a0_buffer, .inl (zI Z, 300, .inl (q7_buffer o0))), (a0_made, .inl (zI Z, 12, .inl (q7_made o0)))] res.1 [(a0, .inr (7, [.int (q7_thrown o0), .ref a0_buffer, .int (q7_length o0), .int (q7_at res.2), .int (q7_from res.2), .int (q7_kind res.2), .int (q7_number res.2), .int (q7_wrong res.2), .ref a0_now, .ref a0_made, .ref a0_history, .ref a0_saved, .int (q7_entries o0), .int (q7_isSaved o0), .ref a0_closed, .ref a0_faces, .ref a0_rankOf, .ref a0_placeOf, .int (q7_faceMany o0), .int (q7_isLaid o0), .ref a0_counted, .ref a0_steps, .ref a0_onto, .ref a0_goes, .int (q7_found o0), .int (q7_images o0), .ref a0_firstImage, .int (q7_gathered o0)])), (a0_buffer, .inl (zI Z, 300, .inl (q7_buffer o0))), (a0_made, .inl (zI Z, 12, .inl (q7_made o0)))] := by
  refine MI_of (by decide +kernel) (Nat.le_of_ble_eq_true rfl) (fun {p e s m args below meth c} A R hR Q hQ C hr hlk => ?_)
  unfold fX7_takePoint at h
  refine g_lv [0, 1] [(0, .ref a0), (1, .int p1)] rfl ?_
  refine g_aload_n C dX7_takePoint_0 rfl 0 rfl ?_
  refine g_get C 7 88 gin7 0 rfl rfl 5 (by decide) mw_5_90 rfl rfl dX7_takePoint_1 ?_
  refine g_iconst C 2 dX7_takePoint_4 (by decide) ?_
  have hj55 : ∀ (x1 : Int32), fX7_takePoint_J55 o0 x1 = some res → Gw p l e R s m args below meth c 2 Z A Q 0 0 55 [(0, .ref a0)] [] [(a0, .inr (7, [.int (q7_thrown o0), .ref a0_buffer, .int (q7_length o0), .int (q7_at o0), .int (q7_from o0), .int (q7_kind o0), .int (q7_number o0), .int x1, .ref a0_now, .ref a0_made, .ref a0_history, .ref a0_saved, .int (q7_entries o0), .int (q7_isSaved o0), .ref a0_closed, .ref a0_faces, .ref a0_rankOf, .ref a0_placeOf, .int (q7_faceMany o0), .int (q7_isLaid o0), .ref a0_counted, .ref a0_steps, .ref a0_onto, .ref a0_goes, .int (q7_found o0), .int (q7_images o0), .ref a0_firstImage, .int (q7_gathered o0)])), (a0_buffer, .inl (zI Z, 300, .inl (q7_buffer o0))), (a0_made, .inl (zI Z, 12, .inl (q7_made o0)))] := by
    intro x1 h
    unfold fX7_takePoint_J55 at h
    refine g_aload_n C dX7_takePoint_55 rfl 0 rfl ?_
    refine g_iconst C 0 dX7_takePoint_56 (by decide) ?_
    refine g_aload_n C dX7_takePoint_57 rfl 0 rfl ?_
    refine g_get C 7 16 gin7 0 rfl rfl 9 (by decide) mw_5_94 rfl rfl dX7_takePoint_58 ?_
    refine g_iconst C 0 dX7_takePoint_61 (by decide) ?_
    refine g_iald C 2 rfl (by decide) dX7_takePoint_62 ?_
    refine g_iconst C 1 dX7_takePoint_63 (by decide) ?_
    refine g_isub C dX7_takePoint_64 ?_
    obtain ⟨r2, hr3, h⟩ := bd_of h
    refine g_callVi C (kX7_takeNumber l Z a0 a0_buffer a0_now a0_made a0_history a0_saved a0_closed a0_faces a0_rankOf a0_placeOf a0_counted a0_steps a0_onto a0_goes a0_firstImage (s7_wrong o0 x1) 0 (((q7_made o0) (ix 0)) - 1) r2 hr3) 0 rfl (ci := 7) rfl rfl myX7_takeNumber 133 mw_5_237 rfl [0, 1] [2] [1, 2, 0] (wr := [(a0_made, .inl (zI Z, 12, .inl (q7_made o0)))]) rfl rfl (by decide) (by decide) (by decide) [(a0, .inr (7, [.int (q7_thrown o0), .ref a0_buffer, .int (q7_length o0), .int (q7_at r2.2), .int (q7_from r2.2), .int (q7_kind r2.2), .int (q7_number r2.2), .int (q7_wrong r2.2), .ref a0_now, .ref a0_made, .ref a0_history, .ref a0_saved, .int (q7_entries o0), .int (q7_isSaved o0), .ref a0_closed, .ref a0_faces, .ref a0_rankOf, .ref a0_placeOf, .int (q7_faceMany o0), .int (q7_isLaid o0), .ref a0_counted, .ref a0_steps, .ref a0_onto, .ref a0_goes, .int (q7_found o0), .int (q7_images o0), .ref a0_firstImage, .int (q7_gathered o0)])), (a0_buffer, .inl (zI Z, 300, .inl (q7_buffer o0))), (a0_made, .inl (zI Z, 12, .inl (q7_made o0)))] rfl (by decide) (Nat.le_of_ble_eq_true rfl) (by rw [hR]; exact Nat.le_of_ble_eq_true rfl) (by rw [hR]; exact Nat.le_of_ble_eq_true rfl) ⟨by rw [hR]; exact Nat.le_of_ble_eq_true rfl, by rw [hR]; exact Nat.le_of_ble_eq_true rfl⟩ rfl dX7_takePoint_65 ?_
    obtain rfl := Option.some.inj h
    subst hQ
    exact g_iret C rfl hr hlk dX7_takePoint_68 [0, 1, 2] rfl (by decide)
  refine g_icmp_ne C 55 dX7_takePoint_5 (by decide) (fun c4 => ?_) (fun c4 => ?_)
  · replace h := it_f c4 h
    refine g_lv [0] [(0, .ref a0)] rfl ?_
    exact hj55 (q7_wrong o0) h
  · replace h := it_t c4 h
    refine g_aload_n C dX7_takePoint_8 rfl 0 rfl ?_
    refine g_get C 7 71 gin7 0 rfl rfl 3 (by decide) mw_5_88 rfl rfl dX7_takePoint_9 ?_
    refine g_aload_n C dX7_takePoint_12 rfl 0 rfl ?_
    refine g_get C 7 78 gin7 0 rfl rfl 4 (by decide) mw_5_89 rfl rfl dX7_takePoint_13 ?_
    refine g_isub C dX7_takePoint_16 ?_
    refine g_iconst C 4 dX7_takePoint_17 (by decide) ?_
    refine g_icmp_gt C 55 dX7_takePoint_18 (by decide) (fun c5 => ?_) (fun c5 => ?_)
    · replace h := it_t c5 h
      refine g_lv [0] [(0, .ref a0)] rfl ?_
      exact hj55 (q7_wrong o0) h
    · replace h := it_f c5 h
      refine g_aload_n C dX7_takePoint_21 rfl 0 rfl ?_
      refine g_get C 7 91 gin7 0 rfl rfl 6 (by decide) mw_5_91 rfl rfl dX7_takePoint_22 ?_
      refine g_iconst C 0 dX7_takePoint_25 (by decide) ?_
      refine g_aload_n C dX7_takePoint_26 rfl 0 rfl ?_
      refine g_get C 7 16 gin7 0 rfl rfl 9 (by decide) mw_5_94 rfl rfl dX7_takePoint_27 ?_
      refine g_iconst C 0 dX7_takePoint_30 (by decide) ?_
      refine g_iald C 2 rfl (by decide) dX7_takePoint_31 ?_
      refine g_iconst C 1 dX7_takePoint_32 (by decide) ?_
      refine g_isub C dX7_takePoint_33 ?_
      obtain ⟨r6, hr7, h⟩ := bd_of h
      refine g_callSi C (kX7_in l Z (q7_number o0) 0 (((q7_made o0) (ix 0)) - 1) r6 hr7) myX7_in 67 mw_5_189 rfl [] [0, 1, 2] [0, 1, 2] (wr := [(a0, .inr (7, [.int (q7_thrown o0), .ref a0_buffer, .int (q7_length o0), .int (q7_at o0), .int (q7_from o0), .int (q7_kind o0), .int (q7_number o0), .int (q7_wrong o0), .ref a0_now, .ref a0_made, .ref a0_history, .ref a0_saved, .int (q7_entries o0), .int (q7_isSaved o0), .ref a0_closed, .ref a0_faces, .ref a0_rankOf, .ref a0_placeOf, .int (q7_faceMany o0), .int (q7_isLaid o0), .ref a0_counted, .ref a0_steps, .ref a0_onto, .ref a0_goes, .int (q7_found o0), .int (q7_images o0), .ref a0_firstImage, .int (q7_gathered o0)])), (a0_buffer, .inl (zI Z, 300, .inl (q7_buffer o0))), (a0_made, .inl (zI Z, 12, .inl (q7_made o0)))]) rfl rfl (by decide) (by decide) (by decide) [(a0, .inr (7, [.int (q7_thrown o0), .ref a0_buffer, .int (q7_length o0), .int (q7_at o0), .int (q7_from o0), .int (q7_kind o0), .int (q7_number o0), .int (q7_wrong o0), .ref a0_now, .ref a0_made, .ref a0_history, .ref a0_saved, .int (q7_entries o0), .int (q7_isSaved o0), .ref a0_closed, .ref a0_faces, .ref a0_rankOf, .ref a0_placeOf, .int (q7_faceMany o0), .int (q7_isLaid o0), .ref a0_counted, .ref a0_steps, .ref a0_onto, .ref a0_goes, .int (q7_found o0), .int (q7_images o0), .ref a0_firstImage, .int (q7_gathered o0)])), (a0_buffer, .inl (zI Z, 300, .inl (q7_buffer o0))), (a0_made, .inl (zI Z, 12, .inl (q7_made o0)))] rfl (by decide) (Nat.le_of_ble_eq_true rfl) (by rw [hR]; exact Nat.le_of_ble_eq_true rfl) (by rw [hR]; exact Nat.le_of_ble_eq_true rfl) ⟨by rw [hR]; exact Nat.le_of_ble_eq_true rfl, by rw [hR]; exact Nat.le_of_ble_eq_true rfl⟩ rfl dX7_takePoint_34 ?_
      refine g_if_eq C 55 dX7_takePoint_37 (by decide) (fun c8 => ?_) (fun c8 => ?_)
      · replace h := it_t c8 h
        refine g_lv [0] [(0, .ref a0)] rfl ?_
        exact hj55 (q7_wrong o0) h
      · replace h := it_f c8 h
        refine g_iload_n C dX7_takePoint_40 rfl 1 rfl ?_
        refine g_aload_n C dX7_takePoint_41 rfl 0 rfl ?_
        refine g_get C 7 91 gin7 0 rfl rfl 6 (by decide) mw_5_91 rfl rfl dX7_takePoint_42 ?_
        obtain ⟨r9, hr10, h⟩ := bd_of h
        refine g_callSi C (kX7_has l Z p1 (q7_number o0) r9 hr10) myX7_has 165 mw_6_45 rfl [] [0, 1, 2] [0, 1, 2] (wr := [(a0, .inr (7, [.int (q7_thrown o0), .ref a0_buffer, .int (q7_length o0), .int (q7_at o0), .int (q7_from o0), .int (q7_kind o0), .int (q7_number o0), .int (q7_wrong o0), .ref a0_now, .ref a0_made, .ref a0_history, .ref a0_saved, .int (q7_entries o0), .int (q7_isSaved o0), .ref a0_closed, .ref a0_faces, .ref a0_rankOf, .ref a0_placeOf, .int (q7_faceMany o0), .int (q7_isLaid o0), .ref a0_counted, .ref a0_steps, .ref a0_onto, .ref a0_goes, .int (q7_found o0), .int (q7_images o0), .ref a0_firstImage, .int (q7_gathered o0)])), (a0_buffer, .inl (zI Z, 300, .inl (q7_buffer o0))), (a0_made, .inl (zI Z, 12, .inl (q7_made o0)))]) rfl rfl (by decide) (by decide) (by decide) [(a0, .inr (7, [.int (q7_thrown o0), .ref a0_buffer, .int (q7_length o0), .int (q7_at o0), .int (q7_from o0), .int (q7_kind o0), .int (q7_number o0), .int (q7_wrong o0), .ref a0_now, .ref a0_made, .ref a0_history, .ref a0_saved, .int (q7_entries o0), .int (q7_isSaved o0), .ref a0_closed, .ref a0_faces, .ref a0_rankOf, .ref a0_placeOf, .int (q7_faceMany o0), .int (q7_isLaid o0), .ref a0_counted, .ref a0_steps, .ref a0_onto, .ref a0_goes, .int (q7_found o0), .int (q7_images o0), .ref a0_firstImage, .int (q7_gathered o0)])), (a0_buffer, .inl (zI Z, 300, .inl (q7_buffer o0))), (a0_made, .inl (zI Z, 12, .inl (q7_made o0)))] rfl (by decide) (Nat.le_of_ble_eq_true rfl) (by rw [hR]; exact Nat.le_of_ble_eq_true rfl) (by rw [hR]; exact Nat.le_of_ble_eq_true rfl) ⟨by rw [hR]; exact Nat.le_of_ble_eq_true rfl, by rw [hR]; exact Nat.le_of_ble_eq_true rfl⟩ rfl dX7_takePoint_45 ?_
        refine g_if_eq C 55 dX7_takePoint_48 (by decide) (fun c11 => ?_) (fun c11 => ?_)
        · replace h := it_t c11 h
          refine g_lv [0] [(0, .ref a0)] rfl ?_
          exact hj55 (q7_wrong o0) h
        · replace h := it_f c11 h
          refine g_aload_n C dX7_takePoint_51 rfl 0 rfl ?_
          obtain ⟨r12, hr13, h⟩ := bd_of h
          refine g_callVv C (kX7_fail l Z a0 a0_buffer a0_now a0_made a0_history a0_saved a0_closed a0_faces a0_rankOf a0_placeOf a0_counted a0_steps a0_onto a0_goes a0_firstImage o0 r12 hr13) 0 rfl (ci := 7) rfl rfl myX7_fail 117 mw_6_1 rfl [0] [1, 2] [2, 0, 1] (wr := [(a0_buffer, .inl (zI Z, 300, .inl (q7_buffer o0))), (a0_made, .inl (zI Z, 12, .inl (q7_made o0)))]) rfl rfl (by decide) (by decide) (by decide) [(a0, .inr (7, [.int (q7_thrown o0), .ref a0_buffer, .int (q7_length o0), .int (q7_at o0), .int (q7_from o0), .int (q7_kind o0), .int (q7_number o0), .int (q7_wrong r12), .ref a0_now, .ref a0_made, .ref a0_history, .ref a0_saved, .int (q7_entries o0), .int (q7_isSaved o0), .ref a0_closed, .ref a0_faces, .ref a0_rankOf, .ref a0_placeOf, .int (q7_faceMany o0), .int (q7_isLaid o0), .ref a0_counted, .ref a0_steps, .ref a0_onto, .ref a0_goes, .int (q7_found o0), .int (q7_images o0), .ref a0_firstImage, .int (q7_gathered o0)])), (a0_buffer, .inl (zI Z, 300, .inl (q7_buffer o0))), (a0_made, .inl (zI Z, 12, .inl (q7_made o0)))] rfl (by decide) (Nat.le_of_ble_eq_true rfl) (by rw [hR]; exact Nat.le_of_ble_eq_true rfl) (by rw [hR]; exact Nat.le_of_ble_eq_true rfl) ⟨by rw [hR]; exact Nat.le_of_ble_eq_true rfl, by rw [hR]; exact Nat.le_of_ble_eq_true rfl⟩ rfl dX7_takePoint_52 ?_
          refine g_lv [0] [(0, .ref a0)] rfl ?_
          exact hj55 (q7_wrong r12) h
def fX7_takeMade_L2 (o0 : OX7) (v1 : Int32 × (Nat → Int32)) : Option ((Int32 × (Nat → Int32)) ⊕ (OX7)) :=
  if 12 ≤ v1.1 then (ex (some (s7_isLaid (s7_now o0 v1.2) 0)))
  else (if (2 + ((q7_made o0) (ix 1))) ≤ v1.1 then (ck (okI v1.1 12) (some (.inl ((v1.1 + 1), (upd v1.2 (ix v1.1) 0)))))
  else (ck (okI v1.1 12) (ck (okI v1.1 12) (some (.inl ((v1.1 + 1), (upd v1.2 (ix v1.1) ((q7_made o0) (ix v1.1)))))))))
def fX7_takeMade (o0 : OX7) : Option (OX7) :=
  lp (fX7_takeMade_L2 o0) lpN (0, (q7_now o0))
theorem myX7_takeMade : MYv yX7_takeMade cX7_takeMade 2 none 0 := ⟨mw_6_54, ms_51, mw_6_55, mw_1_9, ⟨by decide +kernel, by decide +kernel⟩, by decide +kernel⟩
set_option maxRecDepth 100000 in
set_option maxHeartbeats 4000000 in
theorem kX7_takeMade (l : Launch) (Z : GZ) (a0 a0_buffer a0_now a0_made a0_history a0_saved a0_closed a0_faces a0_rankOf a0_placeOf a0_counted a0_steps a0_onto a0_goes a0_firstImage : Nat) (o0 : OX7) (res : OX7) (h : fX7_takeMade o0 = some res) : MV l Z yX7_takeMade cX7_takeMade 2 0 0 [.ref a0] [(a0, .inr (7, [.int (q7_thrown o0), .ref a0_buffer, .int (q7_length o0), .int (q7_at o0), .int (q7_from o0), .int (q7_kind o0), .int (q7_number o0), .int (q7_wrong o0), .ref a0_now, .ref a0_made, .ref a0_history, .ref a0_saved, .int (q7_entries o0), .int (q7_isSaved o0), .ref a0_closed, .ref a0_faces, .ref a0_rankOf, .ref a0_placeOf, .int (q7_faceMany o0), .int (q7_isLaid o0), .ref a0_counted, .ref a0_steps, .ref a0_onto, .ref a0_goes, .int (q7_found o0), .int (q7_images o0), .ref a0_firstImage, .int (q7_gathered o0)])), (a0_now, .inl (zI Z, 12, .inl (q7_now o0))), (a0_made, .inl (zI Z, 12, .inl (q7_made o0)))] [(a0, .inr (7, [.int (q7_thrown o0), .ref a0_buffer, .int (q7_length o0), .int (q7_at o0), .int (q7_from o0), .int (q7_kind o0), .int (q7_number o0), .int (q7_wrong o0), .ref a0_now, .ref a0_made, .ref a0_history, .ref a0_saved, .int (q7_entries o0), .int (q7_isSaved o0), .ref a0_closed, .ref a0_faces, .ref a0_rankOf, .ref a0_placeOf, .int (q7_faceMany o0), .int (q7_isLaid res), .ref a0_counted, .ref a0_steps, .ref a0_onto, .ref a0_goes, .int (q7_found o0), .int (q7_images o0), .ref a0_firstImage, .int (q7_gathered o0)])), (a0_now, .inl (zI Z, 12, .inl (q7_now res))), (a0_made, .inl (zI Z, 12, .inl (q7_made o0)))] := by
  refine MV_of (by decide +kernel) (Nat.le_of_ble_eq_true rfl) (fun {p e s m args below meth c} A R hR Q hQ C hr hlk => ?_)
  unfold fX7_takeMade at h
  refine g_lv [0] [(0, .ref a0)] rfl ?_
  refine g_iconst C 0 dX7_takeMade_0 (by decide) ?_
  refine g_istore_n C dX7_takeMade_1 rfl (by decide) [(1, .int 0), (0, .ref a0)] rfl ?_
  refine g_lv [1, 0] [(0, .ref a0), (1, .int 0)] rfl ?_
  refine g_loop (lvf := fun v1 => [(0, .ref a0), (1, .int v1.1)]) (wsf := fun v1 => [(a0, .inr (7, [.int (q7_thrown o0), .ref a0_buffer, .int (q7_length o0), .int (q7_at o0), .int (q7_from o0), .int (q7_kind o0), .int (q7_number o0), .int (q7_wrong o0), .ref a0_now, .ref a0_made, .ref a0_history, .ref a0_saved, .int (q7_entries o0), .int (q7_isSaved o0), .ref a0_closed, .ref a0_faces, .ref a0_rankOf, .ref a0_placeOf, .int (q7_faceMany o0), .int (q7_isLaid o0), .ref a0_counted, .ref a0_steps, .ref a0_onto, .ref a0_goes, .int (q7_found o0), .int (q7_images o0), .ref a0_firstImage, .int (q7_gathered o0)])), (a0_now, .inl (zI Z, 12, .inl v1.2)), (a0_made, .inl (zI Z, 12, .inl (q7_made o0)))]) h (fun v1 y1 h hk1 hx1 => ?_)
  refine g_eq (lv1 := [(0, .ref a0), (1, .int v1.1)]) (st1 := []) (ws1 := [(a0, .inr (7, [.int (q7_thrown o0), .ref a0_buffer, .int (q7_length o0), .int (q7_at o0), .int (q7_from o0), .int (q7_kind o0), .int (q7_number o0), .int (q7_wrong o0), .ref a0_now, .ref a0_made, .ref a0_history, .ref a0_saved, .int (q7_entries o0), .int (q7_isSaved o0), .ref a0_closed, .ref a0_faces, .ref a0_rankOf, .ref a0_placeOf, .int (q7_faceMany o0), .int (q7_isLaid o0), .ref a0_counted, .ref a0_steps, .ref a0_onto, .ref a0_goes, .int (q7_found o0), .int (q7_images o0), .ref a0_firstImage, .int (q7_gathered o0)])), (a0_now, .inl (zI Z, 12, .inl v1.2)), (a0_made, .inl (zI Z, 12, .inl (q7_made o0)))]) rfl rfl rfl rfl ?_
  unfold fX7_takeMade_L2 at h
  refine g_iload_n C dX7_takeMade_2 rfl 1 rfl ?_
  refine g_bipush C 12 dX7_takeMade_3 (by decide) ?_
  refine g_icmp_ge C 42 dX7_takeMade_5 (by decide) (fun c2 => ?_) (fun c2 => ?_)
  · replace h := it_t c2 h
    obtain ⟨r3, h, hy⟩ := ex_of h
    rw [hx1 r3 hy] at h
    refine g_aload_n C dX7_takeMade_42 rfl 0 rfl ?_
    refine g_iconst C 0 dX7_takeMade_43 (by decide) ?_
    refine g_put C 7 183 gin7 tyX7 tyX7_ok nmX7 0 rfl rfl 19 (by decide) mw_5_104 rfl rfl (ty := .boolean) (by decide +kernel) rfl rfl (Nat.le_of_ble_eq_true rfl) [(a0, .inr (7, [.int (q7_thrown o0), .ref a0_buffer, .int (q7_length o0), .int (q7_at o0), .int (q7_from o0), .int (q7_kind o0), .int (q7_number o0), .int (q7_wrong o0), .ref a0_now, .ref a0_made, .ref a0_history, .ref a0_saved, .int (q7_entries o0), .int (q7_isSaved o0), .ref a0_closed, .ref a0_faces, .ref a0_rankOf, .ref a0_placeOf, .int (q7_faceMany o0), .int 0, .ref a0_counted, .ref a0_steps, .ref a0_onto, .ref a0_goes, .int (q7_found o0), .int (q7_images o0), .ref a0_firstImage, .int (q7_gathered o0)])), (a0_now, .inl (zI Z, 12, .inl v1.2)), (a0_made, .inl (zI Z, 12, .inl (q7_made o0)))] rfl dX7_takeMade_44 ?_
    obtain rfl := Option.some.inj h
    subst hQ
    exact g_vret C hr hlk dX7_takeMade_47 [0, 1, 2] rfl (by decide)
  · replace h := it_f c2 h
    refine g_aload_n C dX7_takeMade_8 rfl 0 rfl ?_
    refine g_get C 7 13 gin7 0 rfl rfl 8 (by decide) mw_5_93 rfl rfl dX7_takeMade_9 ?_
    refine g_iload_n C dX7_takeMade_12 rfl 1 rfl ?_
    refine g_iload_n C dX7_takeMade_13 rfl 1 rfl ?_
    refine g_iconst C 2 dX7_takeMade_14 (by decide) ?_
    refine g_aload_n C dX7_takeMade_15 rfl 0 rfl ?_
    refine g_get C 7 16 gin7 0 rfl rfl 9 (by decide) mw_5_94 rfl rfl dX7_takeMade_16 ?_
    refine g_iconst C 1 dX7_takeMade_19 (by decide) ?_
    refine g_iald C 2 rfl (by decide) dX7_takeMade_20 ?_
    refine g_iadd C dX7_takeMade_21 ?_
    refine g_icmp_ge C 34 dX7_takeMade_22 (by decide) (fun c4 => ?_) (fun c4 => ?_)
    · replace h := it_t c4 h
      refine g_iconst C 0 dX7_takeMade_34 (by decide) ?_
      obtain ⟨hi5, h⟩ := ck_of h
      refine g_iast C 1 rfl hi5 [(a0, .inr (7, [.int (q7_thrown o0), .ref a0_buffer, .int (q7_length o0), .int (q7_at o0), .int (q7_from o0), .int (q7_kind o0), .int (q7_number o0), .int (q7_wrong o0), .ref a0_now, .ref a0_made, .ref a0_history, .ref a0_saved, .int (q7_entries o0), .int (q7_isSaved o0), .ref a0_closed, .ref a0_faces, .ref a0_rankOf, .ref a0_placeOf, .int (q7_faceMany o0), .int (q7_isLaid o0), .ref a0_counted, .ref a0_steps, .ref a0_onto, .ref a0_goes, .int (q7_found o0), .int (q7_images o0), .ref a0_firstImage, .int (q7_gathered o0)])), (a0_now, .inl (zI Z, 12, .inl (upd v1.2 (ix v1.1) 0))), (a0_made, .inl (zI Z, 12, .inl (q7_made o0)))] rfl dX7_takeMade_35 ?_
      refine g_iinc C (v1.1 + 1) dX7_takeMade_36 1 rfl rfl (by decide) [(1, .int (v1.1 + 1)), (0, .ref a0)] rfl ?_
      refine g_goto C 2 dX7_takeMade_39 (by decide) ?_
      refine g_lv [1, 0] [(0, .ref a0), (1, .int (v1.1 + 1))] rfl ?_
      exact hk1 ((v1.1 + 1), (upd v1.2 (ix v1.1) 0)) (Option.some.inj h).symm
    · replace h := it_f c4 h
      refine g_aload_n C dX7_takeMade_25 rfl 0 rfl ?_
      refine g_get C 7 16 gin7 0 rfl rfl 9 (by decide) mw_5_94 rfl rfl dX7_takeMade_26 ?_
      refine g_iload_n C dX7_takeMade_29 rfl 1 rfl ?_
      obtain ⟨hi6, h⟩ := ck_of h
      refine g_iald C 2 rfl hi6 dX7_takeMade_30 ?_
      refine g_goto C 35 dX7_takeMade_31 (by decide) ?_
      obtain ⟨hi7, h⟩ := ck_of h
      refine g_iast C 1 rfl hi7 [(a0, .inr (7, [.int (q7_thrown o0), .ref a0_buffer, .int (q7_length o0), .int (q7_at o0), .int (q7_from o0), .int (q7_kind o0), .int (q7_number o0), .int (q7_wrong o0), .ref a0_now, .ref a0_made, .ref a0_history, .ref a0_saved, .int (q7_entries o0), .int (q7_isSaved o0), .ref a0_closed, .ref a0_faces, .ref a0_rankOf, .ref a0_placeOf, .int (q7_faceMany o0), .int (q7_isLaid o0), .ref a0_counted, .ref a0_steps, .ref a0_onto, .ref a0_goes, .int (q7_found o0), .int (q7_images o0), .ref a0_firstImage, .int (q7_gathered o0)])), (a0_now, .inl (zI Z, 12, .inl (upd v1.2 (ix v1.1) ((q7_made o0) (ix v1.1))))), (a0_made, .inl (zI Z, 12, .inl (q7_made o0)))] rfl dX7_takeMade_35 ?_
      refine g_iinc C (v1.1 + 1) dX7_takeMade_36 1 rfl rfl (by decide) [(1, .int (v1.1 + 1)), (0, .ref a0)] rfl ?_
      refine g_goto C 2 dX7_takeMade_39 (by decide) ?_
      refine g_lv [1, 0] [(0, .ref a0), (1, .int (v1.1 + 1))] rfl ?_
      exact hk1 ((v1.1 + 1), (upd v1.2 (ix v1.1) ((q7_made o0) (ix v1.1)))) (Option.some.inj h).symm
def fX7_record_L56 (o0 : OX7) (x1 : Int32) (v3 : Int32 × (Nat → Int32)) : Option ((Int32 × (Nat → Int32)) ⊕ (OX7)) :=
  if 12 ≤ v3.1 then (ex (some (s7_isLaid (s7_entries (s7_history o0 v3.2) (x1 + 1)) 0)))
  else (ck (okI v3.1 12) (ck (okI ((12 * x1) + v3.1) 96) (some (.inl ((v3.1 + 1), (upd v3.2 (ix ((12 * x1) + v3.1)) ((q7_now o0) (ix v3.1))))))))
def fX7_record_J54 (o0 : OX7) (x1 : Int32) (x2 : Nat → Int32) : Option (OX7) :=
  lp (fX7_record_L56 o0 x1) lpN (0, x2)
def fX7_record_L17 (o0 : OX7) (v9 : Int32 × (Nat → Int32)) : Option ((Int32 × (Nat → Int32)) ⊕ (OX7)) :=
  if 96 ≤ v9.1 then (ex (fX7_record_J54 o0 ((q7_entries o0) - 1) v9.2))
  else (ck (okI v9.1 96) (ck (okI (v9.1 - 12) 96) (some (.inl ((v9.1 + 1), (upd v9.2 (ix (v9.1 - 12)) (v9.2 (ix v9.1))))))))
def fX7_record (o0 : OX7) : Option (OX7) :=
  if (q7_entries o0) = 8 then (lp (fX7_record_L17 o0) lpN (12, (q7_history o0)))
  else (fX7_record_J54 o0 (q7_entries o0) (q7_history o0))
theorem myX7_record : MYv yX7_record cX7_record 2 none 0 := ⟨mw_6_86, ms_54, mw_6_87, mw_1_9, ⟨by decide +kernel, by decide +kernel⟩, by decide +kernel⟩
set_option maxRecDepth 100000 in
set_option maxHeartbeats 4000000 in
theorem kX7_record (l : Launch) (Z : GZ) (a0 a0_buffer a0_now a0_made a0_history a0_saved a0_closed a0_faces a0_rankOf a0_placeOf a0_counted a0_steps a0_onto a0_goes a0_firstImage : Nat) (o0 : OX7) (res : OX7) (h : fX7_record o0 = some res) : MV l Z yX7_record cX7_record 2 0 0 [.ref a0] [(a0, .inr (7, [.int (q7_thrown o0), .ref a0_buffer, .int (q7_length o0), .int (q7_at o0), .int (q7_from o0), .int (q7_kind o0), .int (q7_number o0), .int (q7_wrong o0), .ref a0_now, .ref a0_made, .ref a0_history, .ref a0_saved, .int (q7_entries o0), .int (q7_isSaved o0), .ref a0_closed, .ref a0_faces, .ref a0_rankOf, .ref a0_placeOf, .int (q7_faceMany o0), .int (q7_isLaid o0), .ref a0_counted, .ref a0_steps, .ref a0_onto, .ref a0_goes, .int (q7_found o0), .int (q7_images o0), .ref a0_firstImage, .int (q7_gathered o0)])), (a0_now, .inl (zI Z, 12, .inl (q7_now o0))), (a0_history, .inl (zI Z, 96, .inl (q7_history o0)))] [(a0, .inr (7, [.int (q7_thrown o0), .ref a0_buffer, .int (q7_length o0), .int (q7_at o0), .int (q7_from o0), .int (q7_kind o0), .int (q7_number o0), .int (q7_wrong o0), .ref a0_now, .ref a0_made, .ref a0_history, .ref a0_saved, .int (q7_entries res), .int (q7_isSaved o0), .ref a0_closed, .ref a0_faces, .ref a0_rankOf, .ref a0_placeOf, .int (q7_faceMany o0), .int (q7_isLaid res), .ref a0_counted, .ref a0_steps, .ref a0_onto, .ref a0_goes, .int (q7_found o0), .int (q7_images o0), .ref a0_firstImage, .int (q7_gathered o0)])), (a0_now, .inl (zI Z, 12, .inl (q7_now o0))), (a0_history, .inl (zI Z, 96, .inl (q7_history res)))] := by
  refine MV_of (by decide +kernel) (Nat.le_of_ble_eq_true rfl) (fun {p e s m args below meth c} A R hR Q hQ C hr hlk => ?_)
  unfold fX7_record at h
  refine g_lv [0] [(0, .ref a0)] rfl ?_
  refine g_aload_n C dX7_record_0 rfl 0 rfl ?_
  refine g_iconst C 0 dX7_record_1 (by decide) ?_
  refine g_put C 7 183 gin7 tyX7 tyX7_ok nmX7 0 rfl rfl 19 (by decide) mw_5_104 rfl rfl (ty := .boolean) (by decide +kernel) rfl rfl (Nat.le_of_ble_eq_true rfl) [(a0, .inr (7, [.int (q7_thrown o0), .ref a0_buffer, .int (q7_length o0), .int (q7_at o0), .int (q7_from o0), .int (q7_kind o0), .int (q7_number o0), .int (q7_wrong o0), .ref a0_now, .ref a0_made, .ref a0_history, .ref a0_saved, .int (q7_entries o0), .int (q7_isSaved o0), .ref a0_closed, .ref a0_faces, .ref a0_rankOf, .ref a0_placeOf, .int (q7_faceMany o0), .int 0, .ref a0_counted, .ref a0_steps, .ref a0_onto, .ref a0_goes, .int (q7_found o0), .int (q7_images o0), .ref a0_firstImage, .int (q7_gathered o0)])), (a0_now, .inl (zI Z, 12, .inl (q7_now o0))), (a0_history, .inl (zI Z, 96, .inl (q7_history o0)))] rfl dX7_record_2 ?_
  refine g_aload_n C dX7_record_5 rfl 0 rfl ?_
  refine g_get C 7 190 gin7 0 rfl rfl 12 (by decide) mw_5_97 rfl rfl dX7_record_6 ?_
  refine g_bipush C 8 dX7_record_9 (by decide) ?_
  have hj54 : ∀ (x1 : Int32) (x2 : Nat → Int32), fX7_record_J54 o0 x1 x2 = some res → Gw p l e R s m args below meth c 2 Z A Q 0 0 54 [(0, .ref a0)] [] [(a0, .inr (7, [.int (q7_thrown o0), .ref a0_buffer, .int (q7_length o0), .int (q7_at o0), .int (q7_from o0), .int (q7_kind o0), .int (q7_number o0), .int (q7_wrong o0), .ref a0_now, .ref a0_made, .ref a0_history, .ref a0_saved, .int x1, .int (q7_isSaved o0), .ref a0_closed, .ref a0_faces, .ref a0_rankOf, .ref a0_placeOf, .int (q7_faceMany o0), .int 0, .ref a0_counted, .ref a0_steps, .ref a0_onto, .ref a0_goes, .int (q7_found o0), .int (q7_images o0), .ref a0_firstImage, .int (q7_gathered o0)])), (a0_now, .inl (zI Z, 12, .inl (q7_now o0))), (a0_history, .inl (zI Z, 96, .inl x2))] := by
    intro x1 x2 h
    unfold fX7_record_J54 at h
    refine g_iconst C 0 dX7_record_54 (by decide) ?_
    refine g_istore_n C dX7_record_55 rfl (by decide) [(1, .int 0), (0, .ref a0)] rfl ?_
    refine g_lv [1, 0] [(0, .ref a0), (1, .int 0)] rfl ?_
    refine g_loop (lvf := fun v3 => [(0, .ref a0), (1, .int v3.1)]) (wsf := fun v3 => [(a0, .inr (7, [.int (q7_thrown o0), .ref a0_buffer, .int (q7_length o0), .int (q7_at o0), .int (q7_from o0), .int (q7_kind o0), .int (q7_number o0), .int (q7_wrong o0), .ref a0_now, .ref a0_made, .ref a0_history, .ref a0_saved, .int x1, .int (q7_isSaved o0), .ref a0_closed, .ref a0_faces, .ref a0_rankOf, .ref a0_placeOf, .int (q7_faceMany o0), .int 0, .ref a0_counted, .ref a0_steps, .ref a0_onto, .ref a0_goes, .int (q7_found o0), .int (q7_images o0), .ref a0_firstImage, .int (q7_gathered o0)])), (a0_now, .inl (zI Z, 12, .inl (q7_now o0))), (a0_history, .inl (zI Z, 96, .inl v3.2))]) h (fun v3 y1 h hk1 hx1 => ?_)
    refine g_eq (lv1 := [(0, .ref a0), (1, .int v3.1)]) (st1 := []) (ws1 := [(a0, .inr (7, [.int (q7_thrown o0), .ref a0_buffer, .int (q7_length o0), .int (q7_at o0), .int (q7_from o0), .int (q7_kind o0), .int (q7_number o0), .int (q7_wrong o0), .ref a0_now, .ref a0_made, .ref a0_history, .ref a0_saved, .int x1, .int (q7_isSaved o0), .ref a0_closed, .ref a0_faces, .ref a0_rankOf, .ref a0_placeOf, .int (q7_faceMany o0), .int 0, .ref a0_counted, .ref a0_steps, .ref a0_onto, .ref a0_goes, .int (q7_found o0), .int (q7_images o0), .ref a0_firstImage, .int (q7_gathered o0)])), (a0_now, .inl (zI Z, 12, .inl (q7_now o0))), (a0_history, .inl (zI Z, 96, .inl v3.2))]) rfl rfl rfl rfl ?_
    unfold fX7_record_L56 at h
    refine g_iload_n C dX7_record_56 rfl 1 rfl ?_
    refine g_bipush C 12 dX7_record_57 (by decide) ?_
    refine g_icmp_ge C 88 dX7_record_59 (by decide) (fun c4 => ?_) (fun c4 => ?_)
    · replace h := it_t c4 h
      obtain ⟨r5, h, hy⟩ := ex_of h
      rw [hx1 r5 hy] at h
      refine g_aload_n C dX7_record_88 rfl 0 rfl ?_
      refine g_dup C dX7_record_89 rfl ?_
      refine g_get C 7 190 gin7 0 rfl rfl 12 (by decide) mw_5_97 rfl rfl dX7_record_90 ?_
      refine g_iconst C 1 dX7_record_93 (by decide) ?_
      refine g_iadd C dX7_record_94 ?_
      refine g_put C 7 190 gin7 tyX7 tyX7_ok nmX7 0 rfl rfl 12 (by decide) mw_5_97 rfl rfl (ty := .int) (by decide +kernel) rfl rfl (Nat.le_of_ble_eq_true rfl) [(a0, .inr (7, [.int (q7_thrown o0), .ref a0_buffer, .int (q7_length o0), .int (q7_at o0), .int (q7_from o0), .int (q7_kind o0), .int (q7_number o0), .int (q7_wrong o0), .ref a0_now, .ref a0_made, .ref a0_history, .ref a0_saved, .int (x1 + 1), .int (q7_isSaved o0), .ref a0_closed, .ref a0_faces, .ref a0_rankOf, .ref a0_placeOf, .int (q7_faceMany o0), .int 0, .ref a0_counted, .ref a0_steps, .ref a0_onto, .ref a0_goes, .int (q7_found o0), .int (q7_images o0), .ref a0_firstImage, .int (q7_gathered o0)])), (a0_now, .inl (zI Z, 12, .inl (q7_now o0))), (a0_history, .inl (zI Z, 96, .inl v3.2))] rfl dX7_record_95 ?_
      obtain rfl := Option.some.inj h
      subst hQ
      exact g_vret C hr hlk dX7_record_98 [0, 1, 2] rfl (by decide)
    · replace h := it_f c4 h
      refine g_aload_n C dX7_record_62 rfl 0 rfl ?_
      refine g_get C 7 19 gin7 0 rfl rfl 10 (by decide) mw_5_95 rfl rfl dX7_record_63 ?_
      refine g_bipush C 12 dX7_record_66 (by decide) ?_
      refine g_aload_n C dX7_record_68 rfl 0 rfl ?_
      refine g_get C 7 190 gin7 0 rfl rfl 12 (by decide) mw_5_97 rfl rfl dX7_record_69 ?_
      refine g_imul C dX7_record_72 ?_
      refine g_iload_n C dX7_record_73 rfl 1 rfl ?_
      refine g_iadd C dX7_record_74 ?_
      refine g_aload_n C dX7_record_75 rfl 0 rfl ?_
      refine g_get C 7 13 gin7 0 rfl rfl 8 (by decide) mw_5_93 rfl rfl dX7_record_76 ?_
      refine g_iload_n C dX7_record_79 rfl 1 rfl ?_
      obtain ⟨hi6, h⟩ := ck_of h
      refine g_iald C 1 rfl hi6 dX7_record_80 ?_
      obtain ⟨hi7, h⟩ := ck_of h
      refine g_iast C 2 rfl hi7 [(a0, .inr (7, [.int (q7_thrown o0), .ref a0_buffer, .int (q7_length o0), .int (q7_at o0), .int (q7_from o0), .int (q7_kind o0), .int (q7_number o0), .int (q7_wrong o0), .ref a0_now, .ref a0_made, .ref a0_history, .ref a0_saved, .int x1, .int (q7_isSaved o0), .ref a0_closed, .ref a0_faces, .ref a0_rankOf, .ref a0_placeOf, .int (q7_faceMany o0), .int 0, .ref a0_counted, .ref a0_steps, .ref a0_onto, .ref a0_goes, .int (q7_found o0), .int (q7_images o0), .ref a0_firstImage, .int (q7_gathered o0)])), (a0_now, .inl (zI Z, 12, .inl (q7_now o0))), (a0_history, .inl (zI Z, 96, .inl (upd v3.2 (ix ((12 * x1) + v3.1)) ((q7_now o0) (ix v3.1)))))] rfl dX7_record_81 ?_
      refine g_iinc C (v3.1 + 1) dX7_record_82 1 rfl rfl (by decide) [(1, .int (v3.1 + 1)), (0, .ref a0)] rfl ?_
      refine g_goto C 56 dX7_record_85 (by decide) ?_
      refine g_lv [1, 0] [(0, .ref a0), (1, .int (v3.1 + 1))] rfl ?_
      exact hk1 ((v3.1 + 1), (upd v3.2 (ix ((12 * x1) + v3.1)) ((q7_now o0) (ix v3.1)))) (Option.some.inj h).symm
  refine g_icmp_ne C 54 dX7_record_11 (by decide) (fun c8 => ?_) (fun c8 => ?_)
  · replace h := it_f c8 h
    exact hj54 (q7_entries o0) (q7_history o0) h
  · replace h := it_t c8 h
    refine g_bipush C 12 dX7_record_14 (by decide) ?_
    refine g_istore_n C dX7_record_16 rfl (by decide) [(1, .int 12), (0, .ref a0)] rfl ?_
    refine g_lv [1, 0] [(0, .ref a0), (1, .int 12)] rfl ?_
    refine g_loop (lvf := fun v9 => [(0, .ref a0), (1, .int v9.1)]) (wsf := fun v9 => [(a0, .inr (7, [.int (q7_thrown o0), .ref a0_buffer, .int (q7_length o0), .int (q7_at o0), .int (q7_from o0), .int (q7_kind o0), .int (q7_number o0), .int (q7_wrong o0), .ref a0_now, .ref a0_made, .ref a0_history, .ref a0_saved, .int (q7_entries o0), .int (q7_isSaved o0), .ref a0_closed, .ref a0_faces, .ref a0_rankOf, .ref a0_placeOf, .int (q7_faceMany o0), .int 0, .ref a0_counted, .ref a0_steps, .ref a0_onto, .ref a0_goes, .int (q7_found o0), .int (q7_images o0), .ref a0_firstImage, .int (q7_gathered o0)])), (a0_now, .inl (zI Z, 12, .inl (q7_now o0))), (a0_history, .inl (zI Z, 96, .inl v9.2))]) h (fun v9 y1 h hk1 hx1 => ?_)
    refine g_eq (lv1 := [(0, .ref a0), (1, .int v9.1)]) (st1 := []) (ws1 := [(a0, .inr (7, [.int (q7_thrown o0), .ref a0_buffer, .int (q7_length o0), .int (q7_at o0), .int (q7_from o0), .int (q7_kind o0), .int (q7_number o0), .int (q7_wrong o0), .ref a0_now, .ref a0_made, .ref a0_history, .ref a0_saved, .int (q7_entries o0), .int (q7_isSaved o0), .ref a0_closed, .ref a0_faces, .ref a0_rankOf, .ref a0_placeOf, .int (q7_faceMany o0), .int 0, .ref a0_counted, .ref a0_steps, .ref a0_onto, .ref a0_goes, .int (q7_found o0), .int (q7_images o0), .ref a0_firstImage, .int (q7_gathered o0)])), (a0_now, .inl (zI Z, 12, .inl (q7_now o0))), (a0_history, .inl (zI Z, 96, .inl v9.2))]) rfl rfl rfl rfl ?_
    unfold fX7_record_L17 at h
    refine g_iload_n C dX7_record_17 rfl 1 rfl ?_
    refine g_bipush C 96 dX7_record_18 (by decide) ?_
    refine g_icmp_ge C 44 dX7_record_20 (by decide) (fun c10 => ?_) (fun c10 => ?_)
    · replace h := it_t c10 h
      obtain ⟨r11, h, hy⟩ := ex_of h
      rw [hx1 r11 hy] at h
      refine g_aload_n C dX7_record_44 rfl 0 rfl ?_
      refine g_dup C dX7_record_45 rfl ?_
      refine g_get C 7 190 gin7 0 rfl rfl 12 (by decide) mw_5_97 rfl rfl dX7_record_46 ?_
      refine g_iconst C 1 dX7_record_49 (by decide) ?_
      refine g_isub C dX7_record_50 ?_
      refine g_put C 7 190 gin7 tyX7 tyX7_ok nmX7 0 rfl rfl 12 (by decide) mw_5_97 rfl rfl (ty := .int) (by decide +kernel) rfl rfl (Nat.le_of_ble_eq_true rfl) [(a0, .inr (7, [.int (q7_thrown o0), .ref a0_buffer, .int (q7_length o0), .int (q7_at o0), .int (q7_from o0), .int (q7_kind o0), .int (q7_number o0), .int (q7_wrong o0), .ref a0_now, .ref a0_made, .ref a0_history, .ref a0_saved, .int ((q7_entries o0) - 1), .int (q7_isSaved o0), .ref a0_closed, .ref a0_faces, .ref a0_rankOf, .ref a0_placeOf, .int (q7_faceMany o0), .int 0, .ref a0_counted, .ref a0_steps, .ref a0_onto, .ref a0_goes, .int (q7_found o0), .int (q7_images o0), .ref a0_firstImage, .int (q7_gathered o0)])), (a0_now, .inl (zI Z, 12, .inl (q7_now o0))), (a0_history, .inl (zI Z, 96, .inl v9.2))] rfl dX7_record_51 ?_
      refine g_lv [0] [(0, .ref a0)] rfl ?_
      exact hj54 ((q7_entries o0) - 1) v9.2 h
    · replace h := it_f c10 h
      refine g_aload_n C dX7_record_23 rfl 0 rfl ?_
      refine g_get C 7 19 gin7 0 rfl rfl 10 (by decide) mw_5_95 rfl rfl dX7_record_24 ?_
      refine g_iload_n C dX7_record_27 rfl 1 rfl ?_
      refine g_bipush C 12 dX7_record_28 (by decide) ?_
      refine g_isub C dX7_record_30 ?_
      refine g_aload_n C dX7_record_31 rfl 0 rfl ?_
      refine g_get C 7 19 gin7 0 rfl rfl 10 (by decide) mw_5_95 rfl rfl dX7_record_32 ?_
      refine g_iload_n C dX7_record_35 rfl 1 rfl ?_
      obtain ⟨hi12, h⟩ := ck_of h
      refine g_iald C 2 rfl hi12 dX7_record_36 ?_
      obtain ⟨hi13, h⟩ := ck_of h
      refine g_iast C 2 rfl hi13 [(a0, .inr (7, [.int (q7_thrown o0), .ref a0_buffer, .int (q7_length o0), .int (q7_at o0), .int (q7_from o0), .int (q7_kind o0), .int (q7_number o0), .int (q7_wrong o0), .ref a0_now, .ref a0_made, .ref a0_history, .ref a0_saved, .int (q7_entries o0), .int (q7_isSaved o0), .ref a0_closed, .ref a0_faces, .ref a0_rankOf, .ref a0_placeOf, .int (q7_faceMany o0), .int 0, .ref a0_counted, .ref a0_steps, .ref a0_onto, .ref a0_goes, .int (q7_found o0), .int (q7_images o0), .ref a0_firstImage, .int (q7_gathered o0)])), (a0_now, .inl (zI Z, 12, .inl (q7_now o0))), (a0_history, .inl (zI Z, 96, .inl (upd v9.2 (ix (v9.1 - 12)) (v9.2 (ix v9.1)))))] rfl dX7_record_37 ?_
      refine g_iinc C (v9.1 + 1) dX7_record_38 1 rfl rfl (by decide) [(1, .int (v9.1 + 1)), (0, .ref a0)] rfl ?_
      refine g_goto C 17 dX7_record_41 (by decide) ?_
      refine g_lv [1, 0] [(0, .ref a0), (1, .int (v9.1 + 1))] rfl ?_
      exact hk1 ((v9.1 + 1), (upd v9.2 (ix (v9.1 - 12)) (v9.2 (ix v9.1)))) (Option.some.inj h).symm
def fX7_undo_L44 (o0 : OX7) (r2 : Int32 × OX7) (v5 : Int32 × (Nat → Int32)) : Option ((Int32 × (Nat → Int32)) ⊕ (Int32 × OX7)) :=
  if 12 ≤ v5.1 then (ex (some (((q7_entries o0) - 1), (s7_isLaid (s7_entries (s7_now (s7_thrown o0 (q7_thrown r2.2)) v5.2) ((q7_entries o0) - 1)) 0))))
  else (ck (okI ((12 * ((q7_entries o0) - 1)) + v5.1) 96) (ck (okI v5.1 12) (some (.inl ((v5.1 + 1), (upd v5.2 (ix v5.1) ((q7_history o0) (ix ((12 * ((q7_entries o0) - 1)) + v5.1)))))))))
def fX7_undo_J18 (o0 : OX7) (x1 : Int32) : Option (Int32 × OX7) :=
  (fX7_fails (s7_thrown o0 0) x1 1).bind fun r2 =>
  (if r2.1 = 0 then (lp (fX7_undo_L44 o0 r2) lpN (0, (q7_now o0)))
  else (some (0, (s7_thrown o0 (q7_thrown r2.2)))))
def fX7_undo (o0 : OX7) : Option (Int32 × OX7) :=
  if (q7_entries o0) ≤ 0 then (fX7_undo_J18 o0 0)
  else (fX7_undo_J18 o0 1)
theorem myX7_undo : MYv yX7_undo cX7_undo 2 (some .int) 0 := ⟨mw_6_57, mw_6_58, mw_6_59, mw_1_9, ⟨by decide +kernel, by decide +kernel⟩, by decide +kernel⟩
set_option maxRecDepth 100000 in
set_option maxHeartbeats 4000000 in
theorem kX7_undo (l : Launch) (Z : GZ) (a0 a0_buffer a0_now a0_made a0_history a0_saved a0_closed a0_faces a0_rankOf a0_placeOf a0_counted a0_steps a0_onto a0_goes a0_firstImage : Nat) (o0 : OX7) (res : Int32 × OX7) (h : fX7_undo o0 = some res) : MI l Z yX7_undo cX7_undo 2 .int 1 22 [.ref a0] [(a0, .inr (7, [.int (q7_thrown o0), .ref a0_buffer, .int (q7_length o0), .int (q7_at o0), .int (q7_from o0), .int (q7_kind o0), .int (q7_number o0), .int (q7_wrong o0), .ref a0_now, .ref a0_made, .ref a0_history, .ref a0_saved, .int (q7_entries o0), .int (q7_isSaved o0), .ref a0_closed, .ref a0_faces, .ref a0_rankOf, .ref a0_placeOf, .int (q7_faceMany o0), .int (q7_isLaid o0), .ref a0_counted, .ref a0_steps, .ref a0_onto, .ref a0_goes, .int (q7_found o0), .int (q7_images o0), .ref a0_firstImage, .int (q7_gathered o0)])), (a0_now, .inl (zI Z, 12, .inl (q7_now o0))), (a0_history, .inl (zI Z, 96, .inl (q7_history o0)))] res.1 [(a0, .inr (7, [.int (q7_thrown res.2), .ref a0_buffer, .int (q7_length o0), .int (q7_at o0), .int (q7_from o0), .int (q7_kind o0), .int (q7_number o0), .int (q7_wrong o0), .ref a0_now, .ref a0_made, .ref a0_history, .ref a0_saved, .int (q7_entries res.2), .int (q7_isSaved o0), .ref a0_closed, .ref a0_faces, .ref a0_rankOf, .ref a0_placeOf, .int (q7_faceMany o0), .int (q7_isLaid res.2), .ref a0_counted, .ref a0_steps, .ref a0_onto, .ref a0_goes, .int (q7_found o0), .int (q7_images o0), .ref a0_firstImage, .int (q7_gathered o0)])), (a0_now, .inl (zI Z, 12, .inl (q7_now res.2))), (a0_history, .inl (zI Z, 96, .inl (q7_history o0)))] := by
  refine MI_of (by decide +kernel) (Nat.le_of_ble_eq_true rfl) (fun {p e s m args below meth c} A R hR Q hQ C hr hlk => ?_)
  unfold fX7_undo at h
  refine g_lv [0] [(0, .ref a0)] rfl ?_
  refine g_aload_n C dX7_undo_0 rfl 0 rfl ?_
  refine g_iconst C 0 dX7_undo_1 (by decide) ?_
  refine g_put C 7 52 gin7 tyX7 tyX7_ok nmX7 0 rfl rfl 0 (by decide) mw_5_85 rfl rfl (ty := .int) (by decide +kernel) rfl rfl (Nat.le_of_ble_eq_true rfl) [(a0, .inr (7, [.int 0, .ref a0_buffer, .int (q7_length o0), .int (q7_at o0), .int (q7_from o0), .int (q7_kind o0), .int (q7_number o0), .int (q7_wrong o0), .ref a0_now, .ref a0_made, .ref a0_history, .ref a0_saved, .int (q7_entries o0), .int (q7_isSaved o0), .ref a0_closed, .ref a0_faces, .ref a0_rankOf, .ref a0_placeOf, .int (q7_faceMany o0), .int (q7_isLaid o0), .ref a0_counted, .ref a0_steps, .ref a0_onto, .ref a0_goes, .int (q7_found o0), .int (q7_images o0), .ref a0_firstImage, .int (q7_gathered o0)])), (a0_now, .inl (zI Z, 12, .inl (q7_now o0))), (a0_history, .inl (zI Z, 96, .inl (q7_history o0)))] rfl dX7_undo_2 ?_
  refine g_aload_n C dX7_undo_5 rfl 0 rfl ?_
  refine g_aload_n C dX7_undo_6 rfl 0 rfl ?_
  refine g_get C 7 190 gin7 0 rfl rfl 12 (by decide) mw_5_97 rfl rfl dX7_undo_7 ?_
  have hj18 : ∀ (x1 : Int32), fX7_undo_J18 o0 x1 = some res → Gw p l e R s m args below meth c 2 Z A Q 0 0 18 [(0, .ref a0)] [.int x1, .ref a0] [(a0, .inr (7, [.int 0, .ref a0_buffer, .int (q7_length o0), .int (q7_at o0), .int (q7_from o0), .int (q7_kind o0), .int (q7_number o0), .int (q7_wrong o0), .ref a0_now, .ref a0_made, .ref a0_history, .ref a0_saved, .int (q7_entries o0), .int (q7_isSaved o0), .ref a0_closed, .ref a0_faces, .ref a0_rankOf, .ref a0_placeOf, .int (q7_faceMany o0), .int (q7_isLaid o0), .ref a0_counted, .ref a0_steps, .ref a0_onto, .ref a0_goes, .int (q7_found o0), .int (q7_images o0), .ref a0_firstImage, .int (q7_gathered o0)])), (a0_now, .inl (zI Z, 12, .inl (q7_now o0))), (a0_history, .inl (zI Z, 96, .inl (q7_history o0)))] := by
    intro x1 h
    unfold fX7_undo_J18 at h
    refine g_iconst C 1 dX7_undo_18 (by decide) ?_
    obtain ⟨r2, hr3, h⟩ := bd_of h
    refine g_callVi C (kX7_fails l Z a0 a0_buffer a0_now a0_made a0_history a0_saved a0_closed a0_faces a0_rankOf a0_placeOf a0_counted a0_steps a0_onto a0_goes a0_firstImage (s7_thrown o0 0) x1 1 r2 hr3) 0 rfl (ci := 7) rfl rfl myX7_fails 63 mw_5_181 rfl [0] [1, 2] [2, 0, 1] (wr := [(a0_now, .inl (zI Z, 12, .inl (q7_now o0))), (a0_history, .inl (zI Z, 96, .inl (q7_history o0)))]) rfl rfl (by decide) (by decide) (by decide) [(a0, .inr (7, [.int (q7_thrown r2.2), .ref a0_buffer, .int (q7_length o0), .int (q7_at o0), .int (q7_from o0), .int (q7_kind o0), .int (q7_number o0), .int (q7_wrong o0), .ref a0_now, .ref a0_made, .ref a0_history, .ref a0_saved, .int (q7_entries o0), .int (q7_isSaved o0), .ref a0_closed, .ref a0_faces, .ref a0_rankOf, .ref a0_placeOf, .int (q7_faceMany o0), .int (q7_isLaid o0), .ref a0_counted, .ref a0_steps, .ref a0_onto, .ref a0_goes, .int (q7_found o0), .int (q7_images o0), .ref a0_firstImage, .int (q7_gathered o0)])), (a0_now, .inl (zI Z, 12, .inl (q7_now o0))), (a0_history, .inl (zI Z, 96, .inl (q7_history o0)))] rfl (by decide) (Nat.le_of_ble_eq_true rfl) (by rw [hR]; exact Nat.le_of_ble_eq_true rfl) (by rw [hR]; exact Nat.le_of_ble_eq_true rfl) ⟨by rw [hR]; exact Nat.le_of_ble_eq_true rfl, by rw [hR]; exact Nat.le_of_ble_eq_true rfl⟩ rfl dX7_undo_19 ?_
    refine g_if_eq C 27 dX7_undo_22 (by decide) (fun c4 => ?_) (fun c4 => ?_)
    · replace h := it_t c4 h
      refine g_aload_n C dX7_undo_27 rfl 0 rfl ?_
      refine g_dup C dX7_undo_28 rfl ?_
      refine g_get C 7 190 gin7 0 rfl rfl 12 (by decide) mw_5_97 rfl rfl dX7_undo_29 ?_
      refine g_iconst C 1 dX7_undo_32 (by decide) ?_
      refine g_isub C dX7_undo_33 ?_
      refine g_put C 7 190 gin7 tyX7 tyX7_ok nmX7 0 rfl rfl 12 (by decide) mw_5_97 rfl rfl (ty := .int) (by decide +kernel) rfl rfl (Nat.le_of_ble_eq_true rfl) [(a0, .inr (7, [.int (q7_thrown r2.2), .ref a0_buffer, .int (q7_length o0), .int (q7_at o0), .int (q7_from o0), .int (q7_kind o0), .int (q7_number o0), .int (q7_wrong o0), .ref a0_now, .ref a0_made, .ref a0_history, .ref a0_saved, .int ((q7_entries o0) - 1), .int (q7_isSaved o0), .ref a0_closed, .ref a0_faces, .ref a0_rankOf, .ref a0_placeOf, .int (q7_faceMany o0), .int (q7_isLaid o0), .ref a0_counted, .ref a0_steps, .ref a0_onto, .ref a0_goes, .int (q7_found o0), .int (q7_images o0), .ref a0_firstImage, .int (q7_gathered o0)])), (a0_now, .inl (zI Z, 12, .inl (q7_now o0))), (a0_history, .inl (zI Z, 96, .inl (q7_history o0)))] rfl dX7_undo_34 ?_
      refine g_aload_n C dX7_undo_37 rfl 0 rfl ?_
      refine g_iconst C 0 dX7_undo_38 (by decide) ?_
      refine g_put C 7 183 gin7 tyX7 tyX7_ok nmX7 0 rfl rfl 19 (by decide) mw_5_104 rfl rfl (ty := .boolean) (by decide +kernel) rfl rfl (Nat.le_of_ble_eq_true rfl) [(a0, .inr (7, [.int (q7_thrown r2.2), .ref a0_buffer, .int (q7_length o0), .int (q7_at o0), .int (q7_from o0), .int (q7_kind o0), .int (q7_number o0), .int (q7_wrong o0), .ref a0_now, .ref a0_made, .ref a0_history, .ref a0_saved, .int ((q7_entries o0) - 1), .int (q7_isSaved o0), .ref a0_closed, .ref a0_faces, .ref a0_rankOf, .ref a0_placeOf, .int (q7_faceMany o0), .int 0, .ref a0_counted, .ref a0_steps, .ref a0_onto, .ref a0_goes, .int (q7_found o0), .int (q7_images o0), .ref a0_firstImage, .int (q7_gathered o0)])), (a0_now, .inl (zI Z, 12, .inl (q7_now o0))), (a0_history, .inl (zI Z, 96, .inl (q7_history o0)))] rfl dX7_undo_39 ?_
      refine g_iconst C 0 dX7_undo_42 (by decide) ?_
      refine g_istore_n C dX7_undo_43 rfl (by decide) [(1, .int 0), (0, .ref a0)] rfl ?_
      refine g_lv [1, 0] [(0, .ref a0), (1, .int 0)] rfl ?_
      refine g_loop (lvf := fun v5 => [(0, .ref a0), (1, .int v5.1)]) (wsf := fun v5 => [(a0, .inr (7, [.int (q7_thrown r2.2), .ref a0_buffer, .int (q7_length o0), .int (q7_at o0), .int (q7_from o0), .int (q7_kind o0), .int (q7_number o0), .int (q7_wrong o0), .ref a0_now, .ref a0_made, .ref a0_history, .ref a0_saved, .int ((q7_entries o0) - 1), .int (q7_isSaved o0), .ref a0_closed, .ref a0_faces, .ref a0_rankOf, .ref a0_placeOf, .int (q7_faceMany o0), .int 0, .ref a0_counted, .ref a0_steps, .ref a0_onto, .ref a0_goes, .int (q7_found o0), .int (q7_images o0), .ref a0_firstImage, .int (q7_gathered o0)])), (a0_now, .inl (zI Z, 12, .inl v5.2)), (a0_history, .inl (zI Z, 96, .inl (q7_history o0)))]) h (fun v5 y1 h hk1 hx1 => ?_)
      refine g_eq (lv1 := [(0, .ref a0), (1, .int v5.1)]) (st1 := []) (ws1 := [(a0, .inr (7, [.int (q7_thrown r2.2), .ref a0_buffer, .int (q7_length o0), .int (q7_at o0), .int (q7_from o0), .int (q7_kind o0), .int (q7_number o0), .int (q7_wrong o0), .ref a0_now, .ref a0_made, .ref a0_history, .ref a0_saved, .int ((q7_entries o0) - 1), .int (q7_isSaved o0), .ref a0_closed, .ref a0_faces, .ref a0_rankOf, .ref a0_placeOf, .int (q7_faceMany o0), .int 0, .ref a0_counted, .ref a0_steps, .ref a0_onto, .ref a0_goes, .int (q7_found o0), .int (q7_images o0), .ref a0_firstImage, .int (q7_gathered o0)])), (a0_now, .inl (zI Z, 12, .inl v5.2)), (a0_history, .inl (zI Z, 96, .inl (q7_history o0)))]) rfl rfl rfl rfl ?_
      unfold fX7_undo_L44 at h
      refine g_iload_n C dX7_undo_44 rfl 1 rfl ?_
      refine g_bipush C 12 dX7_undo_45 (by decide) ?_
      refine g_icmp_ge C 76 dX7_undo_47 (by decide) (fun c6 => ?_) (fun c6 => ?_)
      · replace h := it_t c6 h
        obtain ⟨r7, h, hy⟩ := ex_of h
        rw [hx1 r7 hy] at h
        refine g_aload_n C dX7_undo_76 rfl 0 rfl ?_
        refine g_get C 7 190 gin7 0 rfl rfl 12 (by decide) mw_5_97 rfl rfl dX7_undo_77 ?_
        obtain rfl := Option.some.inj h
        subst hQ
        exact g_iret C rfl hr hlk dX7_undo_80 [0, 1, 2] rfl (by decide)
      · replace h := it_f c6 h
        refine g_aload_n C dX7_undo_50 rfl 0 rfl ?_
        refine g_get C 7 13 gin7 0 rfl rfl 8 (by decide) mw_5_93 rfl rfl dX7_undo_51 ?_
        refine g_iload_n C dX7_undo_54 rfl 1 rfl ?_
        refine g_aload_n C dX7_undo_55 rfl 0 rfl ?_
        refine g_get C 7 19 gin7 0 rfl rfl 10 (by decide) mw_5_95 rfl rfl dX7_undo_56 ?_
        refine g_bipush C 12 dX7_undo_59 (by decide) ?_
        refine g_aload_n C dX7_undo_61 rfl 0 rfl ?_
        refine g_get C 7 190 gin7 0 rfl rfl 12 (by decide) mw_5_97 rfl rfl dX7_undo_62 ?_
        refine g_imul C dX7_undo_65 ?_
        refine g_iload_n C dX7_undo_66 rfl 1 rfl ?_
        refine g_iadd C dX7_undo_67 ?_
        obtain ⟨hi8, h⟩ := ck_of h
        refine g_iald C 2 rfl hi8 dX7_undo_68 ?_
        obtain ⟨hi9, h⟩ := ck_of h
        refine g_iast C 1 rfl hi9 [(a0, .inr (7, [.int (q7_thrown r2.2), .ref a0_buffer, .int (q7_length o0), .int (q7_at o0), .int (q7_from o0), .int (q7_kind o0), .int (q7_number o0), .int (q7_wrong o0), .ref a0_now, .ref a0_made, .ref a0_history, .ref a0_saved, .int ((q7_entries o0) - 1), .int (q7_isSaved o0), .ref a0_closed, .ref a0_faces, .ref a0_rankOf, .ref a0_placeOf, .int (q7_faceMany o0), .int 0, .ref a0_counted, .ref a0_steps, .ref a0_onto, .ref a0_goes, .int (q7_found o0), .int (q7_images o0), .ref a0_firstImage, .int (q7_gathered o0)])), (a0_now, .inl (zI Z, 12, .inl (upd v5.2 (ix v5.1) ((q7_history o0) (ix ((12 * ((q7_entries o0) - 1)) + v5.1)))))), (a0_history, .inl (zI Z, 96, .inl (q7_history o0)))] rfl dX7_undo_69 ?_
        refine g_iinc C (v5.1 + 1) dX7_undo_70 1 rfl rfl (by decide) [(1, .int (v5.1 + 1)), (0, .ref a0)] rfl ?_
        refine g_goto C 44 dX7_undo_73 (by decide) ?_
        refine g_lv [1, 0] [(0, .ref a0), (1, .int (v5.1 + 1))] rfl ?_
        exact hk1 ((v5.1 + 1), (upd v5.2 (ix v5.1) ((q7_history o0) (ix ((12 * ((q7_entries o0) - 1)) + v5.1))))) (Option.some.inj h).symm
    · replace h := it_f c4 h
      refine g_iconst C 0 dX7_undo_25 (by decide) ?_
      obtain rfl := Option.some.inj h
      subst hQ
      exact g_iret C rfl hr hlk dX7_undo_26 [0, 1, 2] rfl (by decide)
  refine g_if_le C 17 dX7_undo_10 (by decide) (fun c10 => ?_) (fun c10 => ?_)
  · replace h := it_t c10 h
    refine g_iconst C 0 dX7_undo_17 (by decide) ?_
    exact hj18 0 h
  · replace h := it_f c10 h
    refine g_iconst C 1 dX7_undo_13 (by decide) ?_
    refine g_goto C 18 dX7_undo_14 (by decide) ?_
    exact hj18 1 h
def fX7_undoCount (o0 : OX7) : Option (Int32 × OX7) :=
  some ((q7_entries o0), (s7_thrown o0 0))
theorem myX7_undoCount : MYv yX7_undoCount cX7_undoCount 1 (some .int) 0 := ⟨mw_6_61, mw_6_62, mw_6_63, mw_1_9, ⟨by decide +kernel, by decide +kernel⟩, by decide +kernel⟩
set_option maxRecDepth 100000 in
set_option maxHeartbeats 4000000 in
theorem kX7_undoCount (l : Launch) (Z : GZ) (a0 a0_buffer a0_now a0_made a0_history a0_saved a0_closed a0_faces a0_rankOf a0_placeOf a0_counted a0_steps a0_onto a0_goes a0_firstImage : Nat) (o0 : OX7) (res : Int32 × OX7) (h : fX7_undoCount o0 = some res) : MI l Z yX7_undoCount cX7_undoCount 1 .int 0 0 [.ref a0] [(a0, .inr (7, [.int (q7_thrown o0), .ref a0_buffer, .int (q7_length o0), .int (q7_at o0), .int (q7_from o0), .int (q7_kind o0), .int (q7_number o0), .int (q7_wrong o0), .ref a0_now, .ref a0_made, .ref a0_history, .ref a0_saved, .int (q7_entries o0), .int (q7_isSaved o0), .ref a0_closed, .ref a0_faces, .ref a0_rankOf, .ref a0_placeOf, .int (q7_faceMany o0), .int (q7_isLaid o0), .ref a0_counted, .ref a0_steps, .ref a0_onto, .ref a0_goes, .int (q7_found o0), .int (q7_images o0), .ref a0_firstImage, .int (q7_gathered o0)]))] res.1 [(a0, .inr (7, [.int (q7_thrown res.2), .ref a0_buffer, .int (q7_length o0), .int (q7_at o0), .int (q7_from o0), .int (q7_kind o0), .int (q7_number o0), .int (q7_wrong o0), .ref a0_now, .ref a0_made, .ref a0_history, .ref a0_saved, .int (q7_entries o0), .int (q7_isSaved o0), .ref a0_closed, .ref a0_faces, .ref a0_rankOf, .ref a0_placeOf, .int (q7_faceMany o0), .int (q7_isLaid o0), .ref a0_counted, .ref a0_steps, .ref a0_onto, .ref a0_goes, .int (q7_found o0), .int (q7_images o0), .ref a0_firstImage, .int (q7_gathered o0)]))] := by
  refine MI_of (by decide +kernel) (Nat.le_of_ble_eq_true rfl) (fun {p e s m args below meth c} A R hR Q hQ C hr hlk => ?_)
  unfold fX7_undoCount at h
  refine g_lv [0] [(0, .ref a0)] rfl ?_
  refine g_aload_n C dX7_undoCount_0 rfl 0 rfl ?_
  refine g_iconst C 0 dX7_undoCount_1 (by decide) ?_
  refine g_put C 7 52 gin7 tyX7 tyX7_ok nmX7 0 rfl rfl 0 (by decide) mw_5_85 rfl rfl (ty := .int) (by decide +kernel) rfl rfl (Nat.le_of_ble_eq_true rfl) [(a0, .inr (7, [.int 0, .ref a0_buffer, .int (q7_length o0), .int (q7_at o0), .int (q7_from o0), .int (q7_kind o0), .int (q7_number o0), .int (q7_wrong o0), .ref a0_now, .ref a0_made, .ref a0_history, .ref a0_saved, .int (q7_entries o0), .int (q7_isSaved o0), .ref a0_closed, .ref a0_faces, .ref a0_rankOf, .ref a0_placeOf, .int (q7_faceMany o0), .int (q7_isLaid o0), .ref a0_counted, .ref a0_steps, .ref a0_onto, .ref a0_goes, .int (q7_found o0), .int (q7_images o0), .ref a0_firstImage, .int (q7_gathered o0)]))] rfl dX7_undoCount_2 ?_
  refine g_aload_n C dX7_undoCount_5 rfl 0 rfl ?_
  refine g_get C 7 190 gin7 0 rfl rfl 12 (by decide) mw_5_97 rfl rfl dX7_undoCount_6 ?_
  obtain rfl := Option.some.inj h
  subst hQ
  exact g_iret C rfl hr hlk dX7_undoCount_9 [0] rfl (by decide)
def fX7_save_L7 (o0 : OX7) (v1 : Int32 × (Nat → Int32)) : Option ((Int32 × (Nat → Int32)) ⊕ (Int32 × OX7)) :=
  if 12 ≤ v1.1 then (ex (some (((q7_now o0) (ix 0)), (s7_isSaved (s7_saved (s7_thrown o0 0) v1.2) 1))))
  else (ck (okI v1.1 12) (ck (okI v1.1 12) (some (.inl ((v1.1 + 1), (upd v1.2 (ix v1.1) ((q7_now o0) (ix v1.1))))))))
def fX7_save (o0 : OX7) : Option (Int32 × OX7) :=
  lp (fX7_save_L7 o0) lpN (0, (q7_saved o0))
theorem myX7_save : MYv yX7_save cX7_save 2 (some .int) 0 := ⟨mw_6_65, mw_6_66, mw_6_67, mw_1_9, ⟨by decide +kernel, by decide +kernel⟩, by decide +kernel⟩
set_option maxRecDepth 100000 in
set_option maxHeartbeats 4000000 in
theorem kX7_save (l : Launch) (Z : GZ) (a0 a0_buffer a0_now a0_made a0_history a0_saved a0_closed a0_faces a0_rankOf a0_placeOf a0_counted a0_steps a0_onto a0_goes a0_firstImage : Nat) (o0 : OX7) (res : Int32 × OX7) (h : fX7_save o0 = some res) : MI l Z yX7_save cX7_save 2 .int 0 0 [.ref a0] [(a0, .inr (7, [.int (q7_thrown o0), .ref a0_buffer, .int (q7_length o0), .int (q7_at o0), .int (q7_from o0), .int (q7_kind o0), .int (q7_number o0), .int (q7_wrong o0), .ref a0_now, .ref a0_made, .ref a0_history, .ref a0_saved, .int (q7_entries o0), .int (q7_isSaved o0), .ref a0_closed, .ref a0_faces, .ref a0_rankOf, .ref a0_placeOf, .int (q7_faceMany o0), .int (q7_isLaid o0), .ref a0_counted, .ref a0_steps, .ref a0_onto, .ref a0_goes, .int (q7_found o0), .int (q7_images o0), .ref a0_firstImage, .int (q7_gathered o0)])), (a0_now, .inl (zI Z, 12, .inl (q7_now o0))), (a0_saved, .inl (zI Z, 12, .inl (q7_saved o0)))] res.1 [(a0, .inr (7, [.int (q7_thrown res.2), .ref a0_buffer, .int (q7_length o0), .int (q7_at o0), .int (q7_from o0), .int (q7_kind o0), .int (q7_number o0), .int (q7_wrong o0), .ref a0_now, .ref a0_made, .ref a0_history, .ref a0_saved, .int (q7_entries o0), .int (q7_isSaved res.2), .ref a0_closed, .ref a0_faces, .ref a0_rankOf, .ref a0_placeOf, .int (q7_faceMany o0), .int (q7_isLaid o0), .ref a0_counted, .ref a0_steps, .ref a0_onto, .ref a0_goes, .int (q7_found o0), .int (q7_images o0), .ref a0_firstImage, .int (q7_gathered o0)])), (a0_now, .inl (zI Z, 12, .inl (q7_now o0))), (a0_saved, .inl (zI Z, 12, .inl (q7_saved res.2)))] := by
  refine MI_of (by decide +kernel) (Nat.le_of_ble_eq_true rfl) (fun {p e s m args below meth c} A R hR Q hQ C hr hlk => ?_)
  unfold fX7_save at h
  refine g_lv [0] [(0, .ref a0)] rfl ?_
  refine g_aload_n C dX7_save_0 rfl 0 rfl ?_
  refine g_iconst C 0 dX7_save_1 (by decide) ?_
  refine g_put C 7 52 gin7 tyX7 tyX7_ok nmX7 0 rfl rfl 0 (by decide) mw_5_85 rfl rfl (ty := .int) (by decide +kernel) rfl rfl (Nat.le_of_ble_eq_true rfl) [(a0, .inr (7, [.int 0, .ref a0_buffer, .int (q7_length o0), .int (q7_at o0), .int (q7_from o0), .int (q7_kind o0), .int (q7_number o0), .int (q7_wrong o0), .ref a0_now, .ref a0_made, .ref a0_history, .ref a0_saved, .int (q7_entries o0), .int (q7_isSaved o0), .ref a0_closed, .ref a0_faces, .ref a0_rankOf, .ref a0_placeOf, .int (q7_faceMany o0), .int (q7_isLaid o0), .ref a0_counted, .ref a0_steps, .ref a0_onto, .ref a0_goes, .int (q7_found o0), .int (q7_images o0), .ref a0_firstImage, .int (q7_gathered o0)])), (a0_now, .inl (zI Z, 12, .inl (q7_now o0))), (a0_saved, .inl (zI Z, 12, .inl (q7_saved o0)))] rfl dX7_save_2 ?_
  refine g_iconst C 0 dX7_save_5 (by decide) ?_
  refine g_istore_n C dX7_save_6 rfl (by decide) [(1, .int 0), (0, .ref a0)] rfl ?_
  refine g_lv [1, 0] [(0, .ref a0), (1, .int 0)] rfl ?_
  refine g_loop (lvf := fun v1 => [(0, .ref a0), (1, .int v1.1)]) (wsf := fun v1 => [(a0, .inr (7, [.int 0, .ref a0_buffer, .int (q7_length o0), .int (q7_at o0), .int (q7_from o0), .int (q7_kind o0), .int (q7_number o0), .int (q7_wrong o0), .ref a0_now, .ref a0_made, .ref a0_history, .ref a0_saved, .int (q7_entries o0), .int (q7_isSaved o0), .ref a0_closed, .ref a0_faces, .ref a0_rankOf, .ref a0_placeOf, .int (q7_faceMany o0), .int (q7_isLaid o0), .ref a0_counted, .ref a0_steps, .ref a0_onto, .ref a0_goes, .int (q7_found o0), .int (q7_images o0), .ref a0_firstImage, .int (q7_gathered o0)])), (a0_now, .inl (zI Z, 12, .inl (q7_now o0))), (a0_saved, .inl (zI Z, 12, .inl v1.2))]) h (fun v1 y1 h hk1 hx1 => ?_)
  refine g_eq (lv1 := [(0, .ref a0), (1, .int v1.1)]) (st1 := []) (ws1 := [(a0, .inr (7, [.int 0, .ref a0_buffer, .int (q7_length o0), .int (q7_at o0), .int (q7_from o0), .int (q7_kind o0), .int (q7_number o0), .int (q7_wrong o0), .ref a0_now, .ref a0_made, .ref a0_history, .ref a0_saved, .int (q7_entries o0), .int (q7_isSaved o0), .ref a0_closed, .ref a0_faces, .ref a0_rankOf, .ref a0_placeOf, .int (q7_faceMany o0), .int (q7_isLaid o0), .ref a0_counted, .ref a0_steps, .ref a0_onto, .ref a0_goes, .int (q7_found o0), .int (q7_images o0), .ref a0_firstImage, .int (q7_gathered o0)])), (a0_now, .inl (zI Z, 12, .inl (q7_now o0))), (a0_saved, .inl (zI Z, 12, .inl v1.2))]) rfl rfl rfl rfl ?_
  unfold fX7_save_L7 at h
  refine g_iload_n C dX7_save_7 rfl 1 rfl ?_
  refine g_bipush C 12 dX7_save_8 (by decide) ?_
  refine g_icmp_ge C 31 dX7_save_10 (by decide) (fun c2 => ?_) (fun c2 => ?_)
  · replace h := it_t c2 h
    obtain ⟨r3, h, hy⟩ := ex_of h
    rw [hx1 r3 hy] at h
    refine g_aload_n C dX7_save_31 rfl 0 rfl ?_
    refine g_iconst C 1 dX7_save_32 (by decide) ?_
    refine g_put C 7 193 gin7 tyX7 tyX7_ok nmX7 0 rfl rfl 13 (by decide) mw_5_98 rfl rfl (ty := .boolean) (by decide +kernel) rfl rfl (Nat.le_of_ble_eq_true rfl) [(a0, .inr (7, [.int 0, .ref a0_buffer, .int (q7_length o0), .int (q7_at o0), .int (q7_from o0), .int (q7_kind o0), .int (q7_number o0), .int (q7_wrong o0), .ref a0_now, .ref a0_made, .ref a0_history, .ref a0_saved, .int (q7_entries o0), .int 1, .ref a0_closed, .ref a0_faces, .ref a0_rankOf, .ref a0_placeOf, .int (q7_faceMany o0), .int (q7_isLaid o0), .ref a0_counted, .ref a0_steps, .ref a0_onto, .ref a0_goes, .int (q7_found o0), .int (q7_images o0), .ref a0_firstImage, .int (q7_gathered o0)])), (a0_now, .inl (zI Z, 12, .inl (q7_now o0))), (a0_saved, .inl (zI Z, 12, .inl v1.2))] rfl dX7_save_33 ?_
    refine g_aload_n C dX7_save_36 rfl 0 rfl ?_
    refine g_get C 7 13 gin7 0 rfl rfl 8 (by decide) mw_5_93 rfl rfl dX7_save_37 ?_
    refine g_iconst C 0 dX7_save_40 (by decide) ?_
    refine g_iald C 1 rfl (by decide) dX7_save_41 ?_
    obtain rfl := Option.some.inj h
    subst hQ
    exact g_iret C rfl hr hlk dX7_save_42 [0, 1, 2] rfl (by decide)
  · replace h := it_f c2 h
    refine g_aload_n C dX7_save_13 rfl 0 rfl ?_
    refine g_get C 7 22 gin7 0 rfl rfl 11 (by decide) mw_5_96 rfl rfl dX7_save_14 ?_
    refine g_iload_n C dX7_save_17 rfl 1 rfl ?_
    refine g_aload_n C dX7_save_18 rfl 0 rfl ?_
    refine g_get C 7 13 gin7 0 rfl rfl 8 (by decide) mw_5_93 rfl rfl dX7_save_19 ?_
    refine g_iload_n C dX7_save_22 rfl 1 rfl ?_
    obtain ⟨hi4, h⟩ := ck_of h
    refine g_iald C 1 rfl hi4 dX7_save_23 ?_
    obtain ⟨hi5, h⟩ := ck_of h
    refine g_iast C 2 rfl hi5 [(a0, .inr (7, [.int 0, .ref a0_buffer, .int (q7_length o0), .int (q7_at o0), .int (q7_from o0), .int (q7_kind o0), .int (q7_number o0), .int (q7_wrong o0), .ref a0_now, .ref a0_made, .ref a0_history, .ref a0_saved, .int (q7_entries o0), .int (q7_isSaved o0), .ref a0_closed, .ref a0_faces, .ref a0_rankOf, .ref a0_placeOf, .int (q7_faceMany o0), .int (q7_isLaid o0), .ref a0_counted, .ref a0_steps, .ref a0_onto, .ref a0_goes, .int (q7_found o0), .int (q7_images o0), .ref a0_firstImage, .int (q7_gathered o0)])), (a0_now, .inl (zI Z, 12, .inl (q7_now o0))), (a0_saved, .inl (zI Z, 12, .inl (upd v1.2 (ix v1.1) ((q7_now o0) (ix v1.1)))))] rfl dX7_save_24 ?_
    refine g_iinc C (v1.1 + 1) dX7_save_25 1 rfl rfl (by decide) [(1, .int (v1.1 + 1)), (0, .ref a0)] rfl ?_
    refine g_goto C 7 dX7_save_28 (by decide) ?_
    refine g_lv [1, 0] [(0, .ref a0), (1, .int (v1.1 + 1))] rfl ?_
    exact hk1 ((v1.1 + 1), (upd v1.2 (ix v1.1) ((q7_now o0) (ix v1.1)))) (Option.some.inj h).symm
def fX7_restore_L21 (o0 : OX7) (r1 : Int32 × OX7) (v4 : Int32 × (Nat → Int32)) : Option ((Int32 × (Nat → Int32)) ⊕ (Int32 × OX7)) :=
  if 12 ≤ v4.1 then (ex (some ((v4.2 (ix 0)), (s7_isLaid (s7_entries (s7_now (s7_thrown o0 (q7_thrown r1.2)) v4.2) 0) 0))))
  else (ck (okI v4.1 12) (ck (okI v4.1 12) (some (.inl ((v4.1 + 1), (upd v4.2 (ix v4.1) ((q7_saved o0) (ix v4.1))))))))
def fX7_restore (o0 : OX7) : Option (Int32 × OX7) :=
  (fX7_fails (s7_thrown o0 0) (q7_isSaved o0) 1).bind fun r1 =>
  (if r1.1 = 0 then (lp (fX7_restore_L21 o0 r1) lpN (0, (q7_now o0)))
  else (some (0, (s7_thrown o0 (q7_thrown r1.2)))))
theorem myX7_restore : MYv yX7_restore cX7_restore 2 (some .int) 0 := ⟨mw_6_69, mw_6_70, mw_6_71, mw_1_9, ⟨by decide +kernel, by decide +kernel⟩, by decide +kernel⟩
set_option maxRecDepth 100000 in
set_option maxHeartbeats 4000000 in
theorem kX7_restore (l : Launch) (Z : GZ) (a0 a0_buffer a0_now a0_made a0_history a0_saved a0_closed a0_faces a0_rankOf a0_placeOf a0_counted a0_steps a0_onto a0_goes a0_firstImage : Nat) (o0 : OX7) (res : Int32 × OX7) (h : fX7_restore o0 = some res) : MI l Z yX7_restore cX7_restore 2 .int 1 22 [.ref a0] [(a0, .inr (7, [.int (q7_thrown o0), .ref a0_buffer, .int (q7_length o0), .int (q7_at o0), .int (q7_from o0), .int (q7_kind o0), .int (q7_number o0), .int (q7_wrong o0), .ref a0_now, .ref a0_made, .ref a0_history, .ref a0_saved, .int (q7_entries o0), .int (q7_isSaved o0), .ref a0_closed, .ref a0_faces, .ref a0_rankOf, .ref a0_placeOf, .int (q7_faceMany o0), .int (q7_isLaid o0), .ref a0_counted, .ref a0_steps, .ref a0_onto, .ref a0_goes, .int (q7_found o0), .int (q7_images o0), .ref a0_firstImage, .int (q7_gathered o0)])), (a0_now, .inl (zI Z, 12, .inl (q7_now o0))), (a0_saved, .inl (zI Z, 12, .inl (q7_saved o0)))] res.1 [(a0, .inr (7, [.int (q7_thrown res.2), .ref a0_buffer, .int (q7_length o0), .int (q7_at o0), .int (q7_from o0), .int (q7_kind o0), .int (q7_number o0), .int (q7_wrong o0), .ref a0_now, .ref a0_made, .ref a0_history, .ref a0_saved, .int (q7_entries res.2), .int (q7_isSaved o0), .ref a0_closed, .ref a0_faces, .ref a0_rankOf, .ref a0_placeOf, .int (q7_faceMany o0), .int (q7_isLaid res.2), .ref a0_counted, .ref a0_steps, .ref a0_onto, .ref a0_goes, .int (q7_found o0), .int (q7_images o0), .ref a0_firstImage, .int (q7_gathered o0)])), (a0_now, .inl (zI Z, 12, .inl (q7_now res.2))), (a0_saved, .inl (zI Z, 12, .inl (q7_saved o0)))] := by
  refine MI_of (by decide +kernel) (Nat.le_of_ble_eq_true rfl) (fun {p e s m args below meth c} A R hR Q hQ C hr hlk => ?_)
  unfold fX7_restore at h
  refine g_lv [0] [(0, .ref a0)] rfl ?_
  refine g_aload_n C dX7_restore_0 rfl 0 rfl ?_
  refine g_iconst C 0 dX7_restore_1 (by decide) ?_
  refine g_put C 7 52 gin7 tyX7 tyX7_ok nmX7 0 rfl rfl 0 (by decide) mw_5_85 rfl rfl (ty := .int) (by decide +kernel) rfl rfl (Nat.le_of_ble_eq_true rfl) [(a0, .inr (7, [.int 0, .ref a0_buffer, .int (q7_length o0), .int (q7_at o0), .int (q7_from o0), .int (q7_kind o0), .int (q7_number o0), .int (q7_wrong o0), .ref a0_now, .ref a0_made, .ref a0_history, .ref a0_saved, .int (q7_entries o0), .int (q7_isSaved o0), .ref a0_closed, .ref a0_faces, .ref a0_rankOf, .ref a0_placeOf, .int (q7_faceMany o0), .int (q7_isLaid o0), .ref a0_counted, .ref a0_steps, .ref a0_onto, .ref a0_goes, .int (q7_found o0), .int (q7_images o0), .ref a0_firstImage, .int (q7_gathered o0)])), (a0_now, .inl (zI Z, 12, .inl (q7_now o0))), (a0_saved, .inl (zI Z, 12, .inl (q7_saved o0)))] rfl dX7_restore_2 ?_
  refine g_aload_n C dX7_restore_5 rfl 0 rfl ?_
  refine g_aload_n C dX7_restore_6 rfl 0 rfl ?_
  refine g_get C 7 193 gin7 0 rfl rfl 13 (by decide) mw_5_98 rfl rfl dX7_restore_7 ?_
  refine g_iconst C 1 dX7_restore_10 (by decide) ?_
  obtain ⟨r1, hr2, h⟩ := bd_of h
  refine g_callVi C (kX7_fails l Z a0 a0_buffer a0_now a0_made a0_history a0_saved a0_closed a0_faces a0_rankOf a0_placeOf a0_counted a0_steps a0_onto a0_goes a0_firstImage (s7_thrown o0 0) (q7_isSaved o0) 1 r1 hr2) 0 rfl (ci := 7) rfl rfl myX7_fails 63 mw_5_181 rfl [0] [1, 2] [2, 0, 1] (wr := [(a0_now, .inl (zI Z, 12, .inl (q7_now o0))), (a0_saved, .inl (zI Z, 12, .inl (q7_saved o0)))]) rfl rfl (by decide) (by decide) (by decide) [(a0, .inr (7, [.int (q7_thrown r1.2), .ref a0_buffer, .int (q7_length o0), .int (q7_at o0), .int (q7_from o0), .int (q7_kind o0), .int (q7_number o0), .int (q7_wrong o0), .ref a0_now, .ref a0_made, .ref a0_history, .ref a0_saved, .int (q7_entries o0), .int (q7_isSaved o0), .ref a0_closed, .ref a0_faces, .ref a0_rankOf, .ref a0_placeOf, .int (q7_faceMany o0), .int (q7_isLaid o0), .ref a0_counted, .ref a0_steps, .ref a0_onto, .ref a0_goes, .int (q7_found o0), .int (q7_images o0), .ref a0_firstImage, .int (q7_gathered o0)])), (a0_now, .inl (zI Z, 12, .inl (q7_now o0))), (a0_saved, .inl (zI Z, 12, .inl (q7_saved o0)))] rfl (by decide) (Nat.le_of_ble_eq_true rfl) (by rw [hR]; exact Nat.le_of_ble_eq_true rfl) (by rw [hR]; exact Nat.le_of_ble_eq_true rfl) ⟨by rw [hR]; exact Nat.le_of_ble_eq_true rfl, by rw [hR]; exact Nat.le_of_ble_eq_true rfl⟩ rfl dX7_restore_11 ?_
  refine g_if_eq C 19 dX7_restore_14 (by decide) (fun c3 => ?_) (fun c3 => ?_)
  · replace h := it_t c3 h
    refine g_iconst C 0 dX7_restore_19 (by decide) ?_
    refine g_istore_n C dX7_restore_20 rfl (by decide) [(1, .int 0), (0, .ref a0)] rfl ?_
    refine g_lv [1, 0] [(0, .ref a0), (1, .int 0)] rfl ?_
    refine g_loop (lvf := fun v4 => [(0, .ref a0), (1, .int v4.1)]) (wsf := fun v4 => [(a0, .inr (7, [.int (q7_thrown r1.2), .ref a0_buffer, .int (q7_length o0), .int (q7_at o0), .int (q7_from o0), .int (q7_kind o0), .int (q7_number o0), .int (q7_wrong o0), .ref a0_now, .ref a0_made, .ref a0_history, .ref a0_saved, .int (q7_entries o0), .int (q7_isSaved o0), .ref a0_closed, .ref a0_faces, .ref a0_rankOf, .ref a0_placeOf, .int (q7_faceMany o0), .int (q7_isLaid o0), .ref a0_counted, .ref a0_steps, .ref a0_onto, .ref a0_goes, .int (q7_found o0), .int (q7_images o0), .ref a0_firstImage, .int (q7_gathered o0)])), (a0_now, .inl (zI Z, 12, .inl v4.2)), (a0_saved, .inl (zI Z, 12, .inl (q7_saved o0)))]) h (fun v4 y1 h hk1 hx1 => ?_)
    refine g_eq (lv1 := [(0, .ref a0), (1, .int v4.1)]) (st1 := []) (ws1 := [(a0, .inr (7, [.int (q7_thrown r1.2), .ref a0_buffer, .int (q7_length o0), .int (q7_at o0), .int (q7_from o0), .int (q7_kind o0), .int (q7_number o0), .int (q7_wrong o0), .ref a0_now, .ref a0_made, .ref a0_history, .ref a0_saved, .int (q7_entries o0), .int (q7_isSaved o0), .ref a0_closed, .ref a0_faces, .ref a0_rankOf, .ref a0_placeOf, .int (q7_faceMany o0), .int (q7_isLaid o0), .ref a0_counted, .ref a0_steps, .ref a0_onto, .ref a0_goes, .int (q7_found o0), .int (q7_images o0), .ref a0_firstImage, .int (q7_gathered o0)])), (a0_now, .inl (zI Z, 12, .inl v4.2)), (a0_saved, .inl (zI Z, 12, .inl (q7_saved o0)))]) rfl rfl rfl rfl ?_
    unfold fX7_restore_L21 at h
    refine g_iload_n C dX7_restore_21 rfl 1 rfl ?_
    refine g_bipush C 12 dX7_restore_22 (by decide) ?_
    refine g_icmp_ge C 45 dX7_restore_24 (by decide) (fun c5 => ?_) (fun c5 => ?_)
    · replace h := it_t c5 h
      obtain ⟨r6, h, hy⟩ := ex_of h
      rw [hx1 r6 hy] at h
      refine g_aload_n C dX7_restore_45 rfl 0 rfl ?_
      refine g_iconst C 0 dX7_restore_46 (by decide) ?_
      refine g_put C 7 183 gin7 tyX7 tyX7_ok nmX7 0 rfl rfl 19 (by decide) mw_5_104 rfl rfl (ty := .boolean) (by decide +kernel) rfl rfl (Nat.le_of_ble_eq_true rfl) [(a0, .inr (7, [.int (q7_thrown r1.2), .ref a0_buffer, .int (q7_length o0), .int (q7_at o0), .int (q7_from o0), .int (q7_kind o0), .int (q7_number o0), .int (q7_wrong o0), .ref a0_now, .ref a0_made, .ref a0_history, .ref a0_saved, .int (q7_entries o0), .int (q7_isSaved o0), .ref a0_closed, .ref a0_faces, .ref a0_rankOf, .ref a0_placeOf, .int (q7_faceMany o0), .int 0, .ref a0_counted, .ref a0_steps, .ref a0_onto, .ref a0_goes, .int (q7_found o0), .int (q7_images o0), .ref a0_firstImage, .int (q7_gathered o0)])), (a0_now, .inl (zI Z, 12, .inl v4.2)), (a0_saved, .inl (zI Z, 12, .inl (q7_saved o0)))] rfl dX7_restore_47 ?_
      refine g_aload_n C dX7_restore_50 rfl 0 rfl ?_
      refine g_iconst C 0 dX7_restore_51 (by decide) ?_
      refine g_put C 7 190 gin7 tyX7 tyX7_ok nmX7 0 rfl rfl 12 (by decide) mw_5_97 rfl rfl (ty := .int) (by decide +kernel) rfl rfl (Nat.le_of_ble_eq_true rfl) [(a0, .inr (7, [.int (q7_thrown r1.2), .ref a0_buffer, .int (q7_length o0), .int (q7_at o0), .int (q7_from o0), .int (q7_kind o0), .int (q7_number o0), .int (q7_wrong o0), .ref a0_now, .ref a0_made, .ref a0_history, .ref a0_saved, .int 0, .int (q7_isSaved o0), .ref a0_closed, .ref a0_faces, .ref a0_rankOf, .ref a0_placeOf, .int (q7_faceMany o0), .int 0, .ref a0_counted, .ref a0_steps, .ref a0_onto, .ref a0_goes, .int (q7_found o0), .int (q7_images o0), .ref a0_firstImage, .int (q7_gathered o0)])), (a0_now, .inl (zI Z, 12, .inl v4.2)), (a0_saved, .inl (zI Z, 12, .inl (q7_saved o0)))] rfl dX7_restore_52 ?_
      refine g_aload_n C dX7_restore_55 rfl 0 rfl ?_
      refine g_get C 7 13 gin7 0 rfl rfl 8 (by decide) mw_5_93 rfl rfl dX7_restore_56 ?_
      refine g_iconst C 0 dX7_restore_59 (by decide) ?_
      refine g_iald C 1 rfl (by decide) dX7_restore_60 ?_
      obtain rfl := Option.some.inj h
      subst hQ
      exact g_iret C rfl hr hlk dX7_restore_61 [0, 1, 2] rfl (by decide)
    · replace h := it_f c5 h
      refine g_aload_n C dX7_restore_27 rfl 0 rfl ?_
      refine g_get C 7 13 gin7 0 rfl rfl 8 (by decide) mw_5_93 rfl rfl dX7_restore_28 ?_
      refine g_iload_n C dX7_restore_31 rfl 1 rfl ?_
      refine g_aload_n C dX7_restore_32 rfl 0 rfl ?_
      refine g_get C 7 22 gin7 0 rfl rfl 11 (by decide) mw_5_96 rfl rfl dX7_restore_33 ?_
      refine g_iload_n C dX7_restore_36 rfl 1 rfl ?_
      obtain ⟨hi7, h⟩ := ck_of h
      refine g_iald C 2 rfl hi7 dX7_restore_37 ?_
      obtain ⟨hi8, h⟩ := ck_of h
      refine g_iast C 1 rfl hi8 [(a0, .inr (7, [.int (q7_thrown r1.2), .ref a0_buffer, .int (q7_length o0), .int (q7_at o0), .int (q7_from o0), .int (q7_kind o0), .int (q7_number o0), .int (q7_wrong o0), .ref a0_now, .ref a0_made, .ref a0_history, .ref a0_saved, .int (q7_entries o0), .int (q7_isSaved o0), .ref a0_closed, .ref a0_faces, .ref a0_rankOf, .ref a0_placeOf, .int (q7_faceMany o0), .int (q7_isLaid o0), .ref a0_counted, .ref a0_steps, .ref a0_onto, .ref a0_goes, .int (q7_found o0), .int (q7_images o0), .ref a0_firstImage, .int (q7_gathered o0)])), (a0_now, .inl (zI Z, 12, .inl (upd v4.2 (ix v4.1) ((q7_saved o0) (ix v4.1))))), (a0_saved, .inl (zI Z, 12, .inl (q7_saved o0)))] rfl dX7_restore_38 ?_
      refine g_iinc C (v4.1 + 1) dX7_restore_39 1 rfl rfl (by decide) [(1, .int (v4.1 + 1)), (0, .ref a0)] rfl ?_
      refine g_goto C 21 dX7_restore_42 (by decide) ?_
      refine g_lv [1, 0] [(0, .ref a0), (1, .int (v4.1 + 1))] rfl ?_
      exact hk1 ((v4.1 + 1), (upd v4.2 (ix v4.1) ((q7_saved o0) (ix v4.1)))) (Option.some.inj h).symm
  · replace h := it_f c3 h
    refine g_iconst C 0 dX7_restore_17 (by decide) ?_
    obtain rfl := Option.some.inj h
    subst hQ
    exact g_iret C rfl hr hlk dX7_restore_18 [0, 1, 2] rfl (by decide)
def fX7_all (o0 : OX7) : Option (Int32) :=
  (fX7_every ((q7_now o0) (ix 0))).bind fun r1 =>
  (some r1)
theorem myX7_all : MYv yX7_all cX7_all 1 (some .int) 0 := ⟨mw_6_98, ms_56, mw_6_99, mw_1_9, ⟨by decide +kernel, by decide +kernel⟩, by decide +kernel⟩
set_option maxRecDepth 100000 in
set_option maxHeartbeats 4000000 in
theorem kX7_all (l : Launch) (Z : GZ) (a0 a0_buffer a0_now a0_made a0_history a0_saved a0_closed a0_faces a0_rankOf a0_placeOf a0_counted a0_steps a0_onto a0_goes a0_firstImage : Nat) (o0 : OX7) (res : Int32) (h : fX7_all o0 = some res) : MI l Z yX7_all cX7_all 1 .int 1 20 [.ref a0] [(a0, .inr (7, [.int (q7_thrown o0), .ref a0_buffer, .int (q7_length o0), .int (q7_at o0), .int (q7_from o0), .int (q7_kind o0), .int (q7_number o0), .int (q7_wrong o0), .ref a0_now, .ref a0_made, .ref a0_history, .ref a0_saved, .int (q7_entries o0), .int (q7_isSaved o0), .ref a0_closed, .ref a0_faces, .ref a0_rankOf, .ref a0_placeOf, .int (q7_faceMany o0), .int (q7_isLaid o0), .ref a0_counted, .ref a0_steps, .ref a0_onto, .ref a0_goes, .int (q7_found o0), .int (q7_images o0), .ref a0_firstImage, .int (q7_gathered o0)])), (a0_now, .inl (zI Z, 12, .inl (q7_now o0)))] res [(a0, .inr (7, [.int (q7_thrown o0), .ref a0_buffer, .int (q7_length o0), .int (q7_at o0), .int (q7_from o0), .int (q7_kind o0), .int (q7_number o0), .int (q7_wrong o0), .ref a0_now, .ref a0_made, .ref a0_history, .ref a0_saved, .int (q7_entries o0), .int (q7_isSaved o0), .ref a0_closed, .ref a0_faces, .ref a0_rankOf, .ref a0_placeOf, .int (q7_faceMany o0), .int (q7_isLaid o0), .ref a0_counted, .ref a0_steps, .ref a0_onto, .ref a0_goes, .int (q7_found o0), .int (q7_images o0), .ref a0_firstImage, .int (q7_gathered o0)])), (a0_now, .inl (zI Z, 12, .inl (q7_now o0)))] := by
  refine MI_of (by decide +kernel) (Nat.le_of_ble_eq_true rfl) (fun {p e s m args below meth c} A R hR Q hQ C hr hlk => ?_)
  unfold fX7_all at h
  refine g_lv [0] [(0, .ref a0)] rfl ?_
  refine g_aload_n C dX7_all_0 rfl 0 rfl ?_
  refine g_get C 7 13 gin7 0 rfl rfl 8 (by decide) mw_5_93 rfl rfl dX7_all_1 ?_
  refine g_iconst C 0 dX7_all_4 (by decide) ?_
  refine g_iald C 1 rfl (by decide) dX7_all_5 ?_
  obtain ⟨r1, hr2, h⟩ := bd_of h
  refine g_callSi C (kX7_every l Z ((q7_now o0) (ix 0)) r1 hr2) myX7_every 127 mw_6_14 rfl [] [0, 1] [0, 1] (wr := [(a0, .inr (7, [.int (q7_thrown o0), .ref a0_buffer, .int (q7_length o0), .int (q7_at o0), .int (q7_from o0), .int (q7_kind o0), .int (q7_number o0), .int (q7_wrong o0), .ref a0_now, .ref a0_made, .ref a0_history, .ref a0_saved, .int (q7_entries o0), .int (q7_isSaved o0), .ref a0_closed, .ref a0_faces, .ref a0_rankOf, .ref a0_placeOf, .int (q7_faceMany o0), .int (q7_isLaid o0), .ref a0_counted, .ref a0_steps, .ref a0_onto, .ref a0_goes, .int (q7_found o0), .int (q7_images o0), .ref a0_firstImage, .int (q7_gathered o0)])), (a0_now, .inl (zI Z, 12, .inl (q7_now o0)))]) rfl rfl (by decide) (by decide) (by decide) [(a0, .inr (7, [.int (q7_thrown o0), .ref a0_buffer, .int (q7_length o0), .int (q7_at o0), .int (q7_from o0), .int (q7_kind o0), .int (q7_number o0), .int (q7_wrong o0), .ref a0_now, .ref a0_made, .ref a0_history, .ref a0_saved, .int (q7_entries o0), .int (q7_isSaved o0), .ref a0_closed, .ref a0_faces, .ref a0_rankOf, .ref a0_placeOf, .int (q7_faceMany o0), .int (q7_isLaid o0), .ref a0_counted, .ref a0_steps, .ref a0_onto, .ref a0_goes, .int (q7_found o0), .int (q7_images o0), .ref a0_firstImage, .int (q7_gathered o0)])), (a0_now, .inl (zI Z, 12, .inl (q7_now o0)))] rfl (by decide) (Nat.le_of_ble_eq_true rfl) (by rw [hR]; exact Nat.le_of_ble_eq_true rfl) (by rw [hR]; exact Nat.le_of_ble_eq_true rfl) ⟨by rw [hR]; exact Nat.le_of_ble_eq_true rfl, by rw [hR]; exact Nat.le_of_ble_eq_true rfl⟩ rfl dX7_all_6 ?_
  obtain rfl := Option.some.inj h
  subst hQ
  exact g_iret C rfl hr hlk dX7_all_9 [0, 1] rfl (by decide)
def fX7_closureOf_L7 (o0 : OX7) (p1 : Int32) (v3 : Int32 × Int32) : Option ((Int32 × Int32) ⊕ (Int32)) :=
  if ((q7_now o0) (ix 1)) ≤ v3.2 then (ex (some v3.1))
  else (ck (okI (2 + v3.2) 12) ((fX7_holds ((q7_now o0) (ix (2 + v3.2))) p1).bind fun r7 =>
  (if r7 = 0 then (some (.inl ((v3.1 &&& v3.1), (v3.2 + 1))))
  else (ck (okI (2 + v3.2) 12) (some (.inl ((v3.1 &&& ((q7_now o0) (ix (2 + v3.2)))), (v3.2 + 1))))))))
def fX7_closureOf (o0 : OX7) (p1 : Int32) : Option (Int32) :=
  (fX7_all o0).bind fun r1 =>
  (lp (fX7_closureOf_L7 o0 p1) lpN (r1, 0))
theorem myX7_closureOf : MYv yX7_closureOf cX7_closureOf 4 (some .int) 1 := ⟨mw_6_126, ms_61, mw_6_127, mw_1_9, ⟨by decide +kernel, by decide +kernel⟩, by decide +kernel⟩
set_option maxRecDepth 100000 in
set_option maxHeartbeats 4000000 in
theorem kX7_closureOf (l : Launch) (Z : GZ) (a0 a0_buffer a0_now a0_made a0_history a0_saved a0_closed a0_faces a0_rankOf a0_placeOf a0_counted a0_steps a0_onto a0_goes a0_firstImage : Nat) (o0 : OX7) (p1 : Int32) (res : Int32) (h : fX7_closureOf o0 p1 = some res) : MI l Z yX7_closureOf cX7_closureOf 4 .int 2 40 [.ref a0, .int p1] [(a0, .inr (7, [.int (q7_thrown o0), .ref a0_buffer, .int (q7_length o0), .int (q7_at o0), .int (q7_from o0), .int (q7_kind o0), .int (q7_number o0), .int (q7_wrong o0), .ref a0_now, .ref a0_made, .ref a0_history, .ref a0_saved, .int (q7_entries o0), .int (q7_isSaved o0), .ref a0_closed, .ref a0_faces, .ref a0_rankOf, .ref a0_placeOf, .int (q7_faceMany o0), .int (q7_isLaid o0), .ref a0_counted, .ref a0_steps, .ref a0_onto, .ref a0_goes, .int (q7_found o0), .int (q7_images o0), .ref a0_firstImage, .int (q7_gathered o0)])), (a0_now, .inl (zI Z, 12, .inl (q7_now o0)))] res [(a0, .inr (7, [.int (q7_thrown o0), .ref a0_buffer, .int (q7_length o0), .int (q7_at o0), .int (q7_from o0), .int (q7_kind o0), .int (q7_number o0), .int (q7_wrong o0), .ref a0_now, .ref a0_made, .ref a0_history, .ref a0_saved, .int (q7_entries o0), .int (q7_isSaved o0), .ref a0_closed, .ref a0_faces, .ref a0_rankOf, .ref a0_placeOf, .int (q7_faceMany o0), .int (q7_isLaid o0), .ref a0_counted, .ref a0_steps, .ref a0_onto, .ref a0_goes, .int (q7_found o0), .int (q7_images o0), .ref a0_firstImage, .int (q7_gathered o0)])), (a0_now, .inl (zI Z, 12, .inl (q7_now o0)))] := by
  refine MI_of (by decide +kernel) (Nat.le_of_ble_eq_true rfl) (fun {p e s m args below meth c} A R hR Q hQ C hr hlk => ?_)
  unfold fX7_closureOf at h
  refine g_lv [0, 1] [(0, .ref a0), (1, .int p1)] rfl ?_
  refine g_aload_n C dX7_closureOf_0 rfl 0 rfl ?_
  obtain ⟨r1, hr2, h⟩ := bd_of h
  refine g_callVi C (kX7_all l Z a0 a0_buffer a0_now a0_made a0_history a0_saved a0_closed a0_faces a0_rankOf a0_placeOf a0_counted a0_steps a0_onto a0_goes a0_firstImage o0 r1 hr2) 0 rfl (ci := 7) rfl rfl myX7_all 196 mw_6_96 rfl [0, 1] [] [0, 1] (wr := []) rfl rfl (by decide) (by decide) (by decide) [(a0, .inr (7, [.int (q7_thrown o0), .ref a0_buffer, .int (q7_length o0), .int (q7_at o0), .int (q7_from o0), .int (q7_kind o0), .int (q7_number o0), .int (q7_wrong o0), .ref a0_now, .ref a0_made, .ref a0_history, .ref a0_saved, .int (q7_entries o0), .int (q7_isSaved o0), .ref a0_closed, .ref a0_faces, .ref a0_rankOf, .ref a0_placeOf, .int (q7_faceMany o0), .int (q7_isLaid o0), .ref a0_counted, .ref a0_steps, .ref a0_onto, .ref a0_goes, .int (q7_found o0), .int (q7_images o0), .ref a0_firstImage, .int (q7_gathered o0)])), (a0_now, .inl (zI Z, 12, .inl (q7_now o0)))] rfl (by decide) (Nat.le_of_ble_eq_true rfl) (by rw [hR]; exact Nat.le_of_ble_eq_true rfl) (by rw [hR]; exact Nat.le_of_ble_eq_true rfl) ⟨by rw [hR]; exact Nat.le_of_ble_eq_true rfl, by rw [hR]; exact Nat.le_of_ble_eq_true rfl⟩ rfl dX7_closureOf_1 ?_
  refine g_istore_n C dX7_closureOf_4 rfl (by decide) [(2, .int r1), (0, .ref a0), (1, .int p1)] rfl ?_
  refine g_iconst C 0 dX7_closureOf_5 (by decide) ?_
  refine g_istore_n C dX7_closureOf_6 rfl (by decide) [(3, .int 0), (2, .int r1), (0, .ref a0), (1, .int p1)] rfl ?_
  refine g_lv [2, 3, 1, 0] [(0, .ref a0), (1, .int p1), (2, .int r1), (3, .int 0)] rfl ?_
  refine g_loop (lvf := fun v3 => [(0, .ref a0), (1, .int p1), (2, .int v3.1), (3, .int v3.2)]) (wsf := fun v3 => [(a0, .inr (7, [.int (q7_thrown o0), .ref a0_buffer, .int (q7_length o0), .int (q7_at o0), .int (q7_from o0), .int (q7_kind o0), .int (q7_number o0), .int (q7_wrong o0), .ref a0_now, .ref a0_made, .ref a0_history, .ref a0_saved, .int (q7_entries o0), .int (q7_isSaved o0), .ref a0_closed, .ref a0_faces, .ref a0_rankOf, .ref a0_placeOf, .int (q7_faceMany o0), .int (q7_isLaid o0), .ref a0_counted, .ref a0_steps, .ref a0_onto, .ref a0_goes, .int (q7_found o0), .int (q7_images o0), .ref a0_firstImage, .int (q7_gathered o0)])), (a0_now, .inl (zI Z, 12, .inl (q7_now o0)))]) h (fun v3 y1 h hk1 hx1 => ?_)
  refine g_eq (lv1 := [(0, .ref a0), (1, .int p1), (2, .int v3.1), (3, .int v3.2)]) (st1 := []) (ws1 := [(a0, .inr (7, [.int (q7_thrown o0), .ref a0_buffer, .int (q7_length o0), .int (q7_at o0), .int (q7_from o0), .int (q7_kind o0), .int (q7_number o0), .int (q7_wrong o0), .ref a0_now, .ref a0_made, .ref a0_history, .ref a0_saved, .int (q7_entries o0), .int (q7_isSaved o0), .ref a0_closed, .ref a0_faces, .ref a0_rankOf, .ref a0_placeOf, .int (q7_faceMany o0), .int (q7_isLaid o0), .ref a0_counted, .ref a0_steps, .ref a0_onto, .ref a0_goes, .int (q7_found o0), .int (q7_images o0), .ref a0_firstImage, .int (q7_gathered o0)])), (a0_now, .inl (zI Z, 12, .inl (q7_now o0)))]) rfl rfl rfl rfl ?_
  unfold fX7_closureOf_L7 at h
  refine g_iload_n C dX7_closureOf_7 rfl 3 rfl ?_
  refine g_aload_n C dX7_closureOf_8 rfl 0 rfl ?_
  refine g_get C 7 13 gin7 0 rfl rfl 8 (by decide) mw_5_93 rfl rfl dX7_closureOf_9 ?_
  refine g_iconst C 1 dX7_closureOf_12 (by decide) ?_
  refine g_iald C 1 rfl (by decide) dX7_closureOf_13 ?_
  refine g_icmp_ge C 53 dX7_closureOf_14 (by decide) (fun c4 => ?_) (fun c4 => ?_)
  · replace h := it_t c4 h
    obtain ⟨r5, h, hy⟩ := ex_of h
    rw [hx1 r5 hy] at h
    refine g_iload_n C dX7_closureOf_53 rfl 2 rfl ?_
    obtain rfl := Option.some.inj h
    subst hQ
    exact g_iret C rfl hr hlk dX7_closureOf_54 [0, 1] rfl (by decide)
  · replace h := it_f c4 h
    refine g_iload_n C dX7_closureOf_17 rfl 2 rfl ?_
    refine g_aload_n C dX7_closureOf_18 rfl 0 rfl ?_
    refine g_get C 7 13 gin7 0 rfl rfl 8 (by decide) mw_5_93 rfl rfl dX7_closureOf_19 ?_
    refine g_iconst C 2 dX7_closureOf_22 (by decide) ?_
    refine g_iload_n C dX7_closureOf_23 rfl 3 rfl ?_
    refine g_iadd C dX7_closureOf_24 ?_
    obtain ⟨hi6, h⟩ := ck_of h
    refine g_iald C 1 rfl hi6 dX7_closureOf_25 ?_
    refine g_iload_n C dX7_closureOf_26 rfl 1 rfl ?_
    obtain ⟨r7, hr8, h⟩ := bd_of h
    refine g_callSi C (kX7_holds l Z ((q7_now o0) (ix (2 + v3.2))) p1 r7 hr8) myX7_holds 199 mw_6_128 rfl [] [0, 1] [0, 1] (wr := [(a0, .inr (7, [.int (q7_thrown o0), .ref a0_buffer, .int (q7_length o0), .int (q7_at o0), .int (q7_from o0), .int (q7_kind o0), .int (q7_number o0), .int (q7_wrong o0), .ref a0_now, .ref a0_made, .ref a0_history, .ref a0_saved, .int (q7_entries o0), .int (q7_isSaved o0), .ref a0_closed, .ref a0_faces, .ref a0_rankOf, .ref a0_placeOf, .int (q7_faceMany o0), .int (q7_isLaid o0), .ref a0_counted, .ref a0_steps, .ref a0_onto, .ref a0_goes, .int (q7_found o0), .int (q7_images o0), .ref a0_firstImage, .int (q7_gathered o0)])), (a0_now, .inl (zI Z, 12, .inl (q7_now o0)))]) rfl rfl (by decide) (by decide) (by decide) [(a0, .inr (7, [.int (q7_thrown o0), .ref a0_buffer, .int (q7_length o0), .int (q7_at o0), .int (q7_from o0), .int (q7_kind o0), .int (q7_number o0), .int (q7_wrong o0), .ref a0_now, .ref a0_made, .ref a0_history, .ref a0_saved, .int (q7_entries o0), .int (q7_isSaved o0), .ref a0_closed, .ref a0_faces, .ref a0_rankOf, .ref a0_placeOf, .int (q7_faceMany o0), .int (q7_isLaid o0), .ref a0_counted, .ref a0_steps, .ref a0_onto, .ref a0_goes, .int (q7_found o0), .int (q7_images o0), .ref a0_firstImage, .int (q7_gathered o0)])), (a0_now, .inl (zI Z, 12, .inl (q7_now o0)))] rfl (by decide) (Nat.le_of_ble_eq_true rfl) (by rw [hR]; exact Nat.le_of_ble_eq_true rfl) (by rw [hR]; exact Nat.le_of_ble_eq_true rfl) ⟨by rw [hR]; exact Nat.le_of_ble_eq_true rfl, by rw [hR]; exact Nat.le_of_ble_eq_true rfl⟩ rfl dX7_closureOf_27 ?_
    refine g_if_eq C 44 dX7_closureOf_30 (by decide) (fun c9 => ?_) (fun c9 => ?_)
    · replace h := it_t c9 h
      refine g_iload_n C dX7_closureOf_44 rfl 2 rfl ?_
      refine g_iand C dX7_closureOf_45 ?_
      refine g_istore_n C dX7_closureOf_46 rfl (by decide) [(2, .int (v3.1 &&& v3.1)), (0, .ref a0), (1, .int p1), (3, .int v3.2)] rfl ?_
      refine g_iinc C (v3.2 + 1) dX7_closureOf_47 3 rfl rfl (by decide) [(3, .int (v3.2 + 1)), (2, .int (v3.1 &&& v3.1)), (0, .ref a0), (1, .int p1)] rfl ?_
      refine g_goto C 7 dX7_closureOf_50 (by decide) ?_
      refine g_lv [2, 3, 1, 0] [(0, .ref a0), (1, .int p1), (2, .int (v3.1 &&& v3.1)), (3, .int (v3.2 + 1))] rfl ?_
      exact hk1 ((v3.1 &&& v3.1), (v3.2 + 1)) (Option.some.inj h).symm
    · replace h := it_f c9 h
      refine g_aload_n C dX7_closureOf_33 rfl 0 rfl ?_
      refine g_get C 7 13 gin7 0 rfl rfl 8 (by decide) mw_5_93 rfl rfl dX7_closureOf_34 ?_
      refine g_iconst C 2 dX7_closureOf_37 (by decide) ?_
      refine g_iload_n C dX7_closureOf_38 rfl 3 rfl ?_
      refine g_iadd C dX7_closureOf_39 ?_
      obtain ⟨hi10, h⟩ := ck_of h
      refine g_iald C 1 rfl hi10 dX7_closureOf_40 ?_
      refine g_goto C 45 dX7_closureOf_41 (by decide) ?_
      refine g_iand C dX7_closureOf_45 ?_
      refine g_istore_n C dX7_closureOf_46 rfl (by decide) [(2, .int (v3.1 &&& ((q7_now o0) (ix (2 + v3.2))))), (0, .ref a0), (1, .int p1), (3, .int v3.2)] rfl ?_
      refine g_iinc C (v3.2 + 1) dX7_closureOf_47 3 rfl rfl (by decide) [(3, .int (v3.2 + 1)), (2, .int (v3.1 &&& ((q7_now o0) (ix (2 + v3.2))))), (0, .ref a0), (1, .int p1)] rfl ?_
      refine g_goto C 7 dX7_closureOf_50 (by decide) ?_
      refine g_lv [2, 3, 1, 0] [(0, .ref a0), (1, .int p1), (2, .int (v3.1 &&& ((q7_now o0) (ix (2 + v3.2))))), (3, .int (v3.2 + 1))] rfl ?_
      exact hk1 ((v3.1 &&& ((q7_now o0) (ix (2 + v3.2)))), (v3.2 + 1)) (Option.some.inj h).symm
def fX7_isCover_L17 (o0 : OX7) (p1 : Int32) (p2 : Int32) (v5 : Int32) : Option ((Int32) ⊕ (Int32)) :=
  if 8 ≤ v5 then (ex (some 1))
  else ((fX7_has (p1 &&& (p2 ^^^ (-1))) v5).bind fun r8 =>
  (if r8 = 0 then (some (.inl (v5 + 1)))
  else (ck (okI (p2 ||| (jshl 1 v5)) 256) (if ((q7_closed o0) (ix (p2 ||| (jshl 1 v5)))) = p1 then (some (.inl (v5 + 1)))
  else (ex (some 0))))))
def fX7_isCover (o0 : OX7) (p1 : Int32) (p2 : Int32) : Option (Int32) :=
  if p1 = p2 then (some 0)
  else ((fX7_holds p1 p2).bind fun r2 =>
  (if r2 = 0 then (some 0)
  else (lp (fX7_isCover_L17 o0 p1 p2) lpN 0)))
theorem myX7_isCover : MYv yX7_isCover cX7_isCover 4 (some .boolean) 2 := ⟨mw_6_137, ms_63, mw_6_138, mw_1_9, ⟨by decide +kernel, by decide +kernel⟩, by decide +kernel⟩
set_option maxRecDepth 100000 in
set_option maxHeartbeats 4000000 in
theorem kX7_isCover (l : Launch) (Z : GZ) (a0 a0_buffer a0_now a0_made a0_history a0_saved a0_closed a0_faces a0_rankOf a0_placeOf a0_counted a0_steps a0_onto a0_goes a0_firstImage : Nat) (o0 : OX7) (p1 : Int32) (p2 : Int32) (res : Int32) (h : fX7_isCover o0 p1 p2 = some res) : MI l Z yX7_isCover cX7_isCover 4 .boolean 1 21 [.ref a0, .int p1, .int p2] [(a0, .inr (7, [.int (q7_thrown o0), .ref a0_buffer, .int (q7_length o0), .int (q7_at o0), .int (q7_from o0), .int (q7_kind o0), .int (q7_number o0), .int (q7_wrong o0), .ref a0_now, .ref a0_made, .ref a0_history, .ref a0_saved, .int (q7_entries o0), .int (q7_isSaved o0), .ref a0_closed, .ref a0_faces, .ref a0_rankOf, .ref a0_placeOf, .int (q7_faceMany o0), .int (q7_isLaid o0), .ref a0_counted, .ref a0_steps, .ref a0_onto, .ref a0_goes, .int (q7_found o0), .int (q7_images o0), .ref a0_firstImage, .int (q7_gathered o0)])), (a0_closed, .inl (zI Z, 256, .inl (q7_closed o0)))] res [(a0, .inr (7, [.int (q7_thrown o0), .ref a0_buffer, .int (q7_length o0), .int (q7_at o0), .int (q7_from o0), .int (q7_kind o0), .int (q7_number o0), .int (q7_wrong o0), .ref a0_now, .ref a0_made, .ref a0_history, .ref a0_saved, .int (q7_entries o0), .int (q7_isSaved o0), .ref a0_closed, .ref a0_faces, .ref a0_rankOf, .ref a0_placeOf, .int (q7_faceMany o0), .int (q7_isLaid o0), .ref a0_counted, .ref a0_steps, .ref a0_onto, .ref a0_goes, .int (q7_found o0), .int (q7_images o0), .ref a0_firstImage, .int (q7_gathered o0)])), (a0_closed, .inl (zI Z, 256, .inl (q7_closed o0)))] := by
  refine MI_of (by decide +kernel) (Nat.le_of_ble_eq_true rfl) (fun {p e s m args below meth c} A R hR Q hQ C hr hlk => ?_)
  unfold fX7_isCover at h
  refine g_lv [0, 1, 2] [(0, .ref a0), (1, .int p1), (2, .int p2)] rfl ?_
  refine g_iload_n C dX7_isCover_0 rfl 1 rfl ?_
  refine g_iload_n C dX7_isCover_1 rfl 2 rfl ?_
  refine g_icmp_eq C 13 dX7_isCover_2 (by decide) (fun c1 => ?_) (fun c1 => ?_)
  · replace h := it_t c1 h
    refine g_iconst C 0 dX7_isCover_13 (by decide) ?_
    obtain rfl := Option.some.inj h
    subst hQ
    exact g_zret C rfl (Or.inl rfl) hr hlk dX7_isCover_14 [0, 1] rfl (by decide)
  · replace h := it_f c1 h
    refine g_iload_n C dX7_isCover_5 rfl 1 rfl ?_
    refine g_iload_n C dX7_isCover_6 rfl 2 rfl ?_
    obtain ⟨r2, hr3, h⟩ := bd_of h
    refine g_callSi C (kX7_holds l Z p1 p2 r2 hr3) myX7_holds 199 mw_6_128 rfl [] [0, 1] [0, 1] (wr := [(a0, .inr (7, [.int (q7_thrown o0), .ref a0_buffer, .int (q7_length o0), .int (q7_at o0), .int (q7_from o0), .int (q7_kind o0), .int (q7_number o0), .int (q7_wrong o0), .ref a0_now, .ref a0_made, .ref a0_history, .ref a0_saved, .int (q7_entries o0), .int (q7_isSaved o0), .ref a0_closed, .ref a0_faces, .ref a0_rankOf, .ref a0_placeOf, .int (q7_faceMany o0), .int (q7_isLaid o0), .ref a0_counted, .ref a0_steps, .ref a0_onto, .ref a0_goes, .int (q7_found o0), .int (q7_images o0), .ref a0_firstImage, .int (q7_gathered o0)])), (a0_closed, .inl (zI Z, 256, .inl (q7_closed o0)))]) rfl rfl (by decide) (by decide) (by decide) [(a0, .inr (7, [.int (q7_thrown o0), .ref a0_buffer, .int (q7_length o0), .int (q7_at o0), .int (q7_from o0), .int (q7_kind o0), .int (q7_number o0), .int (q7_wrong o0), .ref a0_now, .ref a0_made, .ref a0_history, .ref a0_saved, .int (q7_entries o0), .int (q7_isSaved o0), .ref a0_closed, .ref a0_faces, .ref a0_rankOf, .ref a0_placeOf, .int (q7_faceMany o0), .int (q7_isLaid o0), .ref a0_counted, .ref a0_steps, .ref a0_onto, .ref a0_goes, .int (q7_found o0), .int (q7_images o0), .ref a0_firstImage, .int (q7_gathered o0)])), (a0_closed, .inl (zI Z, 256, .inl (q7_closed o0)))] rfl (by decide) (Nat.le_of_ble_eq_true rfl) (by rw [hR]; exact Nat.le_of_ble_eq_true rfl) (by rw [hR]; exact Nat.le_of_ble_eq_true rfl) ⟨by rw [hR]; exact Nat.le_of_ble_eq_true rfl, by rw [hR]; exact Nat.le_of_ble_eq_true rfl⟩ rfl dX7_isCover_7 ?_
    refine g_if_ne C 15 dX7_isCover_10 (by decide) (fun c4 => ?_) (fun c4 => ?_)
    · replace h := it_f c4 h
      refine g_iconst C 0 dX7_isCover_15 (by decide) ?_
      refine g_istore_n C dX7_isCover_16 rfl (by decide) [(3, .int 0), (0, .ref a0), (1, .int p1), (2, .int p2)] rfl ?_
      refine g_lv [1, 2, 3, 0] [(0, .ref a0), (1, .int p1), (2, .int p2), (3, .int 0)] rfl ?_
      refine g_loop (lvf := fun v5 => [(0, .ref a0), (1, .int p1), (2, .int p2), (3, .int v5)]) (wsf := fun v5 => [(a0, .inr (7, [.int (q7_thrown o0), .ref a0_buffer, .int (q7_length o0), .int (q7_at o0), .int (q7_from o0), .int (q7_kind o0), .int (q7_number o0), .int (q7_wrong o0), .ref a0_now, .ref a0_made, .ref a0_history, .ref a0_saved, .int (q7_entries o0), .int (q7_isSaved o0), .ref a0_closed, .ref a0_faces, .ref a0_rankOf, .ref a0_placeOf, .int (q7_faceMany o0), .int (q7_isLaid o0), .ref a0_counted, .ref a0_steps, .ref a0_onto, .ref a0_goes, .int (q7_found o0), .int (q7_images o0), .ref a0_firstImage, .int (q7_gathered o0)])), (a0_closed, .inl (zI Z, 256, .inl (q7_closed o0)))]) h (fun v5 y1 h hk1 hx1 => ?_)
      refine g_eq (lv1 := [(0, .ref a0), (1, .int p1), (2, .int p2), (3, .int v5)]) (st1 := []) (ws1 := [(a0, .inr (7, [.int (q7_thrown o0), .ref a0_buffer, .int (q7_length o0), .int (q7_at o0), .int (q7_from o0), .int (q7_kind o0), .int (q7_number o0), .int (q7_wrong o0), .ref a0_now, .ref a0_made, .ref a0_history, .ref a0_saved, .int (q7_entries o0), .int (q7_isSaved o0), .ref a0_closed, .ref a0_faces, .ref a0_rankOf, .ref a0_placeOf, .int (q7_faceMany o0), .int (q7_isLaid o0), .ref a0_counted, .ref a0_steps, .ref a0_onto, .ref a0_goes, .int (q7_found o0), .int (q7_images o0), .ref a0_firstImage, .int (q7_gathered o0)])), (a0_closed, .inl (zI Z, 256, .inl (q7_closed o0)))]) rfl rfl rfl rfl ?_
      unfold fX7_isCover_L17 at h
      refine g_iload_n C dX7_isCover_17 rfl 3 rfl ?_
      refine g_bipush C 8 dX7_isCover_18 (by decide) ?_
      refine g_icmp_ge C 57 dX7_isCover_20 (by decide) (fun c6 => ?_) (fun c6 => ?_)
      · replace h := it_t c6 h
        obtain ⟨r7, h, hy⟩ := ex_of h
        rw [hx1 r7 hy] at h
        refine g_iconst C 1 dX7_isCover_57 (by decide) ?_
        obtain rfl := Option.some.inj h
        subst hQ
        exact g_zret C rfl (Or.inr rfl) hr hlk dX7_isCover_58 [0, 1] rfl (by decide)
      · replace h := it_f c6 h
        refine g_iload_n C dX7_isCover_23 rfl 1 rfl ?_
        refine g_iload_n C dX7_isCover_24 rfl 2 rfl ?_
        refine g_iconst C (-1) dX7_isCover_25 (by decide) ?_
        refine g_ixor C dX7_isCover_26 ?_
        refine g_iand C dX7_isCover_27 ?_
        refine g_iload_n C dX7_isCover_28 rfl 3 rfl ?_
        obtain ⟨r8, hr9, h⟩ := bd_of h
        refine g_callSi C (kX7_has l Z (p1 &&& (p2 ^^^ (-1))) v5 r8 hr9) myX7_has 165 mw_6_45 rfl [] [0, 1] [0, 1] (wr := [(a0, .inr (7, [.int (q7_thrown o0), .ref a0_buffer, .int (q7_length o0), .int (q7_at o0), .int (q7_from o0), .int (q7_kind o0), .int (q7_number o0), .int (q7_wrong o0), .ref a0_now, .ref a0_made, .ref a0_history, .ref a0_saved, .int (q7_entries o0), .int (q7_isSaved o0), .ref a0_closed, .ref a0_faces, .ref a0_rankOf, .ref a0_placeOf, .int (q7_faceMany o0), .int (q7_isLaid o0), .ref a0_counted, .ref a0_steps, .ref a0_onto, .ref a0_goes, .int (q7_found o0), .int (q7_images o0), .ref a0_firstImage, .int (q7_gathered o0)])), (a0_closed, .inl (zI Z, 256, .inl (q7_closed o0)))]) rfl rfl (by decide) (by decide) (by decide) [(a0, .inr (7, [.int (q7_thrown o0), .ref a0_buffer, .int (q7_length o0), .int (q7_at o0), .int (q7_from o0), .int (q7_kind o0), .int (q7_number o0), .int (q7_wrong o0), .ref a0_now, .ref a0_made, .ref a0_history, .ref a0_saved, .int (q7_entries o0), .int (q7_isSaved o0), .ref a0_closed, .ref a0_faces, .ref a0_rankOf, .ref a0_placeOf, .int (q7_faceMany o0), .int (q7_isLaid o0), .ref a0_counted, .ref a0_steps, .ref a0_onto, .ref a0_goes, .int (q7_found o0), .int (q7_images o0), .ref a0_firstImage, .int (q7_gathered o0)])), (a0_closed, .inl (zI Z, 256, .inl (q7_closed o0)))] rfl (by decide) (Nat.le_of_ble_eq_true rfl) (by rw [hR]; exact Nat.le_of_ble_eq_true rfl) (by rw [hR]; exact Nat.le_of_ble_eq_true rfl) ⟨by rw [hR]; exact Nat.le_of_ble_eq_true rfl, by rw [hR]; exact Nat.le_of_ble_eq_true rfl⟩ rfl dX7_isCover_29 ?_
        refine g_if_eq C 51 dX7_isCover_32 (by decide) (fun c10 => ?_) (fun c10 => ?_)
        · replace h := it_t c10 h
          refine g_iinc C (v5 + 1) dX7_isCover_51 3 rfl rfl (by decide) [(3, .int (v5 + 1)), (0, .ref a0), (1, .int p1), (2, .int p2)] rfl ?_
          refine g_goto C 17 dX7_isCover_54 (by decide) ?_
          refine g_lv [1, 2, 3, 0] [(0, .ref a0), (1, .int p1), (2, .int p2), (3, .int (v5 + 1))] rfl ?_
          exact hk1 (v5 + 1) (Option.some.inj h).symm
        · replace h := it_f c10 h
          refine g_aload_n C dX7_isCover_35 rfl 0 rfl ?_
          refine g_get C 7 25 gin7 0 rfl rfl 14 (by decide) mw_5_99 rfl rfl dX7_isCover_36 ?_
          refine g_iload_n C dX7_isCover_39 rfl 2 rfl ?_
          refine g_iconst C 1 dX7_isCover_40 (by decide) ?_
          refine g_iload_n C dX7_isCover_41 rfl 3 rfl ?_
          refine g_ishl C dX7_isCover_42 ?_
          refine g_ior C dX7_isCover_43 ?_
          obtain ⟨hi11, h⟩ := ck_of h
          refine g_iald C 1 rfl hi11 dX7_isCover_44 ?_
          refine g_iload_n C dX7_isCover_45 rfl 1 rfl ?_
          refine g_icmp_eq C 51 dX7_isCover_46 (by decide) (fun c12 => ?_) (fun c12 => ?_)
          · replace h := it_t c12 h
            refine g_iinc C (v5 + 1) dX7_isCover_51 3 rfl rfl (by decide) [(3, .int (v5 + 1)), (0, .ref a0), (1, .int p1), (2, .int p2)] rfl ?_
            refine g_goto C 17 dX7_isCover_54 (by decide) ?_
            refine g_lv [1, 2, 3, 0] [(0, .ref a0), (1, .int p1), (2, .int p2), (3, .int (v5 + 1))] rfl ?_
            exact hk1 (v5 + 1) (Option.some.inj h).symm
          · replace h := it_f c12 h
            obtain ⟨r13, h, hy⟩ := ex_of h
            rw [hx1 r13 hy] at h
            refine g_iconst C 0 dX7_isCover_49 (by decide) ?_
            obtain rfl := Option.some.inj h
            subst hQ
            exact g_zret C rfl (Or.inl rfl) hr hlk dX7_isCover_50 [0, 1] rfl (by decide)
    · replace h := it_t c4 h
      refine g_iconst C 0 dX7_isCover_13 (by decide) ?_
      obtain rfl := Option.some.inj h
      subst hQ
      exact g_zret C rfl (Or.inl rfl) hr hlk dX7_isCover_14 [0, 1] rfl (by decide)
def fX7_layRank_L4 (o0 : OX7) (p1 : Int32) (v1 : Int32 × Int32) : Option ((Int32 × Int32) ⊕ (OX7)) :=
  if p1 ≤ v1.2 then (ex (ck (okI p1 256) (some (s7_rankOf o0 (upd (q7_rankOf o0) (ix p1) v1.1)))))
  else (ck (okI v1.2 256) (if ((q7_placeOf o0) (ix v1.2)) = (-1) then (some (.inl (v1.1, (v1.2 + 1))))
  else ((fX7_isCover o0 p1 v1.2).bind fun r7 =>
  (if r7 = 0 then (some (.inl (v1.1, (v1.2 + 1))))
  else (ck (okI v1.2 256) (some (.inl ((jmax v1.1 (((q7_rankOf o0) (ix v1.2)) + 1)), (v1.2 + 1)))))))))
def fX7_layRank (o0 : OX7) (p1 : Int32) : Option (OX7) :=
  lp (fX7_layRank_L4 o0 p1) lpN (0, 0)
theorem myX7_layRank : MYv yX7_layRank cX7_layRank 4 none 1 := ⟨mw_6_133, ms_62, mw_6_134, mw_1_9, ⟨by decide +kernel, by decide +kernel⟩, by decide +kernel⟩
set_option maxRecDepth 100000 in
set_option maxHeartbeats 4000000 in
theorem kX7_layRank (l : Launch) (Z : GZ) (a0 a0_buffer a0_now a0_made a0_history a0_saved a0_closed a0_faces a0_rankOf a0_placeOf a0_counted a0_steps a0_onto a0_goes a0_firstImage : Nat) (o0 : OX7) (p1 : Int32) (res : OX7) (h : fX7_layRank o0 p1 = some res) : MV l Z yX7_layRank cX7_layRank 4 2 44 [.ref a0, .int p1] [(a0, .inr (7, [.int (q7_thrown o0), .ref a0_buffer, .int (q7_length o0), .int (q7_at o0), .int (q7_from o0), .int (q7_kind o0), .int (q7_number o0), .int (q7_wrong o0), .ref a0_now, .ref a0_made, .ref a0_history, .ref a0_saved, .int (q7_entries o0), .int (q7_isSaved o0), .ref a0_closed, .ref a0_faces, .ref a0_rankOf, .ref a0_placeOf, .int (q7_faceMany o0), .int (q7_isLaid o0), .ref a0_counted, .ref a0_steps, .ref a0_onto, .ref a0_goes, .int (q7_found o0), .int (q7_images o0), .ref a0_firstImage, .int (q7_gathered o0)])), (a0_closed, .inl (zI Z, 256, .inl (q7_closed o0))), (a0_rankOf, .inl (zI Z, 256, .inl (q7_rankOf o0))), (a0_placeOf, .inl (zI Z, 256, .inl (q7_placeOf o0)))] [(a0, .inr (7, [.int (q7_thrown o0), .ref a0_buffer, .int (q7_length o0), .int (q7_at o0), .int (q7_from o0), .int (q7_kind o0), .int (q7_number o0), .int (q7_wrong o0), .ref a0_now, .ref a0_made, .ref a0_history, .ref a0_saved, .int (q7_entries o0), .int (q7_isSaved o0), .ref a0_closed, .ref a0_faces, .ref a0_rankOf, .ref a0_placeOf, .int (q7_faceMany o0), .int (q7_isLaid o0), .ref a0_counted, .ref a0_steps, .ref a0_onto, .ref a0_goes, .int (q7_found o0), .int (q7_images o0), .ref a0_firstImage, .int (q7_gathered o0)])), (a0_closed, .inl (zI Z, 256, .inl (q7_closed o0))), (a0_rankOf, .inl (zI Z, 256, .inl (q7_rankOf res))), (a0_placeOf, .inl (zI Z, 256, .inl (q7_placeOf o0)))] := by
  refine MV_of (by decide +kernel) (Nat.le_of_ble_eq_true rfl) (fun {p e s m args below meth c} A R hR Q hQ C hr hlk => ?_)
  unfold fX7_layRank at h
  refine g_lv [0, 1] [(0, .ref a0), (1, .int p1)] rfl ?_
  refine g_iconst C 0 dX7_layRank_0 (by decide) ?_
  refine g_istore_n C dX7_layRank_1 rfl (by decide) [(2, .int 0), (0, .ref a0), (1, .int p1)] rfl ?_
  refine g_iconst C 0 dX7_layRank_2 (by decide) ?_
  refine g_istore_n C dX7_layRank_3 rfl (by decide) [(3, .int 0), (2, .int 0), (0, .ref a0), (1, .int p1)] rfl ?_
  refine g_lv [2, 3, 1, 0] [(0, .ref a0), (1, .int p1), (2, .int 0), (3, .int 0)] rfl ?_
  refine g_loop (lvf := fun v1 => [(0, .ref a0), (1, .int p1), (2, .int v1.1), (3, .int v1.2)]) (wsf := fun v1 => [(a0, .inr (7, [.int (q7_thrown o0), .ref a0_buffer, .int (q7_length o0), .int (q7_at o0), .int (q7_from o0), .int (q7_kind o0), .int (q7_number o0), .int (q7_wrong o0), .ref a0_now, .ref a0_made, .ref a0_history, .ref a0_saved, .int (q7_entries o0), .int (q7_isSaved o0), .ref a0_closed, .ref a0_faces, .ref a0_rankOf, .ref a0_placeOf, .int (q7_faceMany o0), .int (q7_isLaid o0), .ref a0_counted, .ref a0_steps, .ref a0_onto, .ref a0_goes, .int (q7_found o0), .int (q7_images o0), .ref a0_firstImage, .int (q7_gathered o0)])), (a0_closed, .inl (zI Z, 256, .inl (q7_closed o0))), (a0_rankOf, .inl (zI Z, 256, .inl (q7_rankOf o0))), (a0_placeOf, .inl (zI Z, 256, .inl (q7_placeOf o0)))]) h (fun v1 y1 h hk1 hx1 => ?_)
  refine g_eq (lv1 := [(0, .ref a0), (1, .int p1), (2, .int v1.1), (3, .int v1.2)]) (st1 := []) (ws1 := [(a0, .inr (7, [.int (q7_thrown o0), .ref a0_buffer, .int (q7_length o0), .int (q7_at o0), .int (q7_from o0), .int (q7_kind o0), .int (q7_number o0), .int (q7_wrong o0), .ref a0_now, .ref a0_made, .ref a0_history, .ref a0_saved, .int (q7_entries o0), .int (q7_isSaved o0), .ref a0_closed, .ref a0_faces, .ref a0_rankOf, .ref a0_placeOf, .int (q7_faceMany o0), .int (q7_isLaid o0), .ref a0_counted, .ref a0_steps, .ref a0_onto, .ref a0_goes, .int (q7_found o0), .int (q7_images o0), .ref a0_firstImage, .int (q7_gathered o0)])), (a0_closed, .inl (zI Z, 256, .inl (q7_closed o0))), (a0_rankOf, .inl (zI Z, 256, .inl (q7_rankOf o0))), (a0_placeOf, .inl (zI Z, 256, .inl (q7_placeOf o0)))]) rfl rfl rfl rfl ?_
  unfold fX7_layRank_L4 at h
  refine g_iload_n C dX7_layRank_4 rfl 3 rfl ?_
  refine g_iload_n C dX7_layRank_5 rfl 1 rfl ?_
  refine g_icmp_ge C 47 dX7_layRank_6 (by decide) (fun c2 => ?_) (fun c2 => ?_)
  · replace h := it_t c2 h
    obtain ⟨r3, h, hy⟩ := ex_of h
    rw [hx1 r3 hy] at h
    refine g_aload_n C dX7_layRank_47 rfl 0 rfl ?_
    refine g_get C 7 31 gin7 0 rfl rfl 16 (by decide) mw_5_101 rfl rfl dX7_layRank_48 ?_
    refine g_iload_n C dX7_layRank_51 rfl 1 rfl ?_
    refine g_iload_n C dX7_layRank_52 rfl 2 rfl ?_
    obtain ⟨hi4, h⟩ := ck_of h
    refine g_iast C 2 rfl hi4 [(a0, .inr (7, [.int (q7_thrown o0), .ref a0_buffer, .int (q7_length o0), .int (q7_at o0), .int (q7_from o0), .int (q7_kind o0), .int (q7_number o0), .int (q7_wrong o0), .ref a0_now, .ref a0_made, .ref a0_history, .ref a0_saved, .int (q7_entries o0), .int (q7_isSaved o0), .ref a0_closed, .ref a0_faces, .ref a0_rankOf, .ref a0_placeOf, .int (q7_faceMany o0), .int (q7_isLaid o0), .ref a0_counted, .ref a0_steps, .ref a0_onto, .ref a0_goes, .int (q7_found o0), .int (q7_images o0), .ref a0_firstImage, .int (q7_gathered o0)])), (a0_closed, .inl (zI Z, 256, .inl (q7_closed o0))), (a0_rankOf, .inl (zI Z, 256, .inl (upd (q7_rankOf o0) (ix p1) v1.1))), (a0_placeOf, .inl (zI Z, 256, .inl (q7_placeOf o0)))] rfl dX7_layRank_53 ?_
    obtain rfl := Option.some.inj h
    subst hQ
    exact g_vret C hr hlk dX7_layRank_54 [0, 1, 2, 3] rfl (by decide)
  · replace h := it_f c2 h
    refine g_aload_n C dX7_layRank_9 rfl 0 rfl ?_
    refine g_get C 7 34 gin7 0 rfl rfl 17 (by decide) mw_5_102 rfl rfl dX7_layRank_10 ?_
    refine g_iload_n C dX7_layRank_13 rfl 3 rfl ?_
    obtain ⟨hi5, h⟩ := ck_of h
    refine g_iald C 3 rfl hi5 dX7_layRank_14 ?_
    refine g_iconst C (-1) dX7_layRank_15 (by decide) ?_
    refine g_icmp_eq C 41 dX7_layRank_16 (by decide) (fun c6 => ?_) (fun c6 => ?_)
    · replace h := it_t c6 h
      refine g_iinc C (v1.2 + 1) dX7_layRank_41 3 rfl rfl (by decide) [(3, .int (v1.2 + 1)), (0, .ref a0), (1, .int p1), (2, .int v1.1)] rfl ?_
      refine g_goto C 4 dX7_layRank_44 (by decide) ?_
      refine g_lv [1, 2, 3, 0] [(0, .ref a0), (1, .int p1), (2, .int v1.1), (3, .int (v1.2 + 1))] rfl ?_
      exact hk1 (v1.1, (v1.2 + 1)) (Option.some.inj h).symm
    · replace h := it_f c6 h
      refine g_aload_n C dX7_layRank_19 rfl 0 rfl ?_
      refine g_iload_n C dX7_layRank_20 rfl 1 rfl ?_
      refine g_iload_n C dX7_layRank_21 rfl 3 rfl ?_
      obtain ⟨r7, hr8, h⟩ := bd_of h
      refine g_callVi C (kX7_isCover l Z a0 a0_buffer a0_now a0_made a0_history a0_saved a0_closed a0_faces a0_rankOf a0_placeOf a0_counted a0_steps a0_onto a0_goes a0_firstImage o0 p1 v1.2 r7 hr8) 0 rfl (ci := 7) rfl rfl myX7_isCover 202 mw_6_135 rfl [0, 1] [2, 3] [2, 3, 0, 1] (wr := [(a0_rankOf, .inl (zI Z, 256, .inl (q7_rankOf o0))), (a0_placeOf, .inl (zI Z, 256, .inl (q7_placeOf o0)))]) rfl rfl (by decide) (by decide) (by decide) [(a0, .inr (7, [.int (q7_thrown o0), .ref a0_buffer, .int (q7_length o0), .int (q7_at o0), .int (q7_from o0), .int (q7_kind o0), .int (q7_number o0), .int (q7_wrong o0), .ref a0_now, .ref a0_made, .ref a0_history, .ref a0_saved, .int (q7_entries o0), .int (q7_isSaved o0), .ref a0_closed, .ref a0_faces, .ref a0_rankOf, .ref a0_placeOf, .int (q7_faceMany o0), .int (q7_isLaid o0), .ref a0_counted, .ref a0_steps, .ref a0_onto, .ref a0_goes, .int (q7_found o0), .int (q7_images o0), .ref a0_firstImage, .int (q7_gathered o0)])), (a0_closed, .inl (zI Z, 256, .inl (q7_closed o0))), (a0_rankOf, .inl (zI Z, 256, .inl (q7_rankOf o0))), (a0_placeOf, .inl (zI Z, 256, .inl (q7_placeOf o0)))] rfl (by decide) (Nat.le_of_ble_eq_true rfl) (by rw [hR]; exact Nat.le_of_ble_eq_true rfl) (by rw [hR]; exact Nat.le_of_ble_eq_true rfl) ⟨by rw [hR]; exact Nat.le_of_ble_eq_true rfl, by rw [hR]; exact Nat.le_of_ble_eq_true rfl⟩ rfl dX7_layRank_22 ?_
      refine g_if_eq C 41 dX7_layRank_25 (by decide) (fun c9 => ?_) (fun c9 => ?_)
      · replace h := it_t c9 h
        refine g_iinc C (v1.2 + 1) dX7_layRank_41 3 rfl rfl (by decide) [(3, .int (v1.2 + 1)), (0, .ref a0), (1, .int p1), (2, .int v1.1)] rfl ?_
        refine g_goto C 4 dX7_layRank_44 (by decide) ?_
        refine g_lv [1, 2, 3, 0] [(0, .ref a0), (1, .int p1), (2, .int v1.1), (3, .int (v1.2 + 1))] rfl ?_
        exact hk1 (v1.1, (v1.2 + 1)) (Option.some.inj h).symm
      · replace h := it_f c9 h
        refine g_iload_n C dX7_layRank_28 rfl 2 rfl ?_
        refine g_aload_n C dX7_layRank_29 rfl 0 rfl ?_
        refine g_get C 7 31 gin7 0 rfl rfl 16 (by decide) mw_5_101 rfl rfl dX7_layRank_30 ?_
        refine g_iload_n C dX7_layRank_33 rfl 3 rfl ?_
        obtain ⟨hi10, h⟩ := ck_of h
        refine g_iald C 2 rfl hi10 dX7_layRank_34 ?_
        refine g_iconst C 1 dX7_layRank_35 (by decide) ?_
        refine g_iadd C dX7_layRank_36 ?_
        refine g_mmax C 205 mw_6_139 mw_1_213 mw_1_8 mw_1_214 (by rw [hR]; exact Nat.le_of_ble_eq_true rfl) (by rw [hR]; exact Nat.le_of_ble_eq_true rfl) ⟨by rw [hR]; exact Nat.le_of_ble_eq_true rfl, by rw [hR]; exact Nat.le_of_ble_eq_true rfl⟩ dX7_layRank_37 ?_
        refine g_istore_n C dX7_layRank_40 rfl (by decide) [(2, .int (jmax v1.1 (((q7_rankOf o0) (ix v1.2)) + 1))), (0, .ref a0), (1, .int p1), (3, .int v1.2)] rfl ?_
        refine g_iinc C (v1.2 + 1) dX7_layRank_41 3 rfl rfl (by decide) [(3, .int (v1.2 + 1)), (2, .int (jmax v1.1 (((q7_rankOf o0) (ix v1.2)) + 1))), (0, .ref a0), (1, .int p1)] rfl ?_
        refine g_goto C 4 dX7_layRank_44 (by decide) ?_
        refine g_lv [2, 3, 1, 0] [(0, .ref a0), (1, .int p1), (2, .int (jmax v1.1 (((q7_rankOf o0) (ix v1.2)) + 1))), (3, .int (v1.2 + 1))] rfl ?_
        exact hk1 ((jmax v1.1 (((q7_rankOf o0) (ix v1.2)) + 1)), (v1.2 + 1)) (Option.some.inj h).symm
def fX7_lay_L107 (o0 : OX7) (v2 : Int32 × (Nat → Int32) × (Nat → Int32)) (v7 : Int32 × (Nat → Int32)) (v12 : Int32 × Int32 × (Nat → Int32) × (Nat → Int32)) (v15 : Int32 × Int32 × (Nat → Int32) × (Nat → Int32)) : Option ((Int32 × Int32 × (Nat → Int32) × (Nat → Int32)) ⊕ ((Int32 × Int32 × (Nat → Int32) × (Nat → Int32)) ⊕ (OX7))) :=
  (fX7_all (s7_isLaid (s7_faceMany (s7_placeOf (s7_rankOf (s7_faces (s7_closed o0 v2.2.1) v15.2.2.1) v7.2) v15.2.2.2) v15.2.1) 1)).bind fun r16 =>
  (if r16 < v15.1 then (ex (some (.inl ((v12.1 + 1), v15.2.1, v15.2.2.1, v15.2.2.2))))
  else (ck (okI v15.1 256) (if (v15.2.2.2 (ix v15.1)) = (-1) then (some (.inl ((v15.1 + 1), v15.2.1, v15.2.2.1, v15.2.2.2)))
  else (ck (okI v15.1 256) (if (v7.2 (ix v15.1)) = v12.1 then (ck (okI v15.2.1 256) (ck (okI v15.1 256) (some (.inl ((v15.1 + 1), (v15.2.1 + 1), (upd v15.2.2.1 (ix v15.2.1) v15.1), (upd v15.2.2.2 (ix v15.1) v15.2.1))))))
  else (some (.inl ((v15.1 + 1), v15.2.1, v15.2.2.1, v15.2.2.2))))))))
def fX7_lay_L99 (o0 : OX7) (v2 : Int32 × (Nat → Int32) × (Nat → Int32)) (v7 : Int32 × (Nat → Int32)) (v12 : Int32 × Int32 × (Nat → Int32) × (Nat → Int32)) : Option ((Int32 × Int32 × (Nat → Int32) × (Nat → Int32)) ⊕ (OX7)) :=
  if 8 < v12.1 then (ex (some (s7_isLaid (s7_faceMany (s7_placeOf (s7_rankOf (s7_faces (s7_closed o0 v2.2.1) v12.2.2.1) v7.2) v12.2.2.2) v12.2.1) 1)))
  else (lp (fX7_lay_L107 o0 v2 v7 v12) lpN (0, v12.2.1, v12.2.2.1, v12.2.2.2))
def fX7_lay_L63 (o0 : OX7) (v2 : Int32 × (Nat → Int32) × (Nat → Int32)) (v7 : Int32 × (Nat → Int32)) : Option ((Int32 × (Nat → Int32)) ⊕ (OX7)) :=
  (fX7_all (s7_isLaid (s7_placeOf (s7_rankOf (s7_closed o0 v2.2.1) v7.2) v2.2.2) 1)).bind fun r8 =>
  (if r8 < v7.1 then (ex (lp (fX7_lay_L99 o0 v2 v7) lpN (0, 0, (q7_faces o0), v2.2.2)))
  else (ck (okI v7.1 256) (if (v2.2.2 (ix v7.1)) = (-1) then (some (.inl ((v7.1 + 1), v7.2)))
  else ((fX7_layRank (s7_isLaid (s7_placeOf (s7_rankOf (s7_closed o0 v2.2.1) v7.2) v2.2.2) 1) v7.1).bind fun r28 =>
  (some (.inl ((v7.1 + 1), (q7_rankOf r28))))))))
def fX7_lay_L15 (o0 : OX7) (v2 : Int32 × (Nat → Int32) × (Nat → Int32)) : Option ((Int32 × (Nat → Int32) × (Nat → Int32)) ⊕ (OX7)) :=
  (fX7_all (s7_isLaid (s7_placeOf (s7_closed o0 v2.2.1) v2.2.2) 1)).bind fun r3 =>
  (if r3 < v2.1 then (ex (lp (fX7_lay_L63 o0 v2) lpN (0, (q7_rankOf o0))))
  else ((fX7_closureOf (s7_isLaid (s7_placeOf (s7_closed o0 v2.2.1) v2.2.2) 1) v2.1).bind fun r30 =>
  (ck (okI v2.1 256) (ck (okI v2.1 256) (if ((upd v2.2.1 (ix v2.1) r30) (ix v2.1)) = v2.1 then (ck (okI v2.1 256) (some (.inl ((v2.1 + 1), (upd v2.2.1 (ix v2.1) r30), (upd v2.2.2 (ix v2.1) 0)))))
  else (ck (okI v2.1 256) (some (.inl ((v2.1 + 1), (upd v2.2.1 (ix v2.1) r30), (upd v2.2.2 (ix v2.1) (-1)))))))))))
def fX7_lay (o0 : OX7) : Option (OX7) :=
  if (q7_isLaid o0) = 0 then (lp (fX7_lay_L15 o0) lpN (0, (q7_closed o0), (q7_placeOf o0)))
  else (some o0)
theorem myX7_lay : MYv yX7_lay cX7_lay 3 none 0 := ⟨mw_6_122, ms_60, mw_6_123, mw_1_9, ⟨by decide +kernel, by decide +kernel⟩, by decide +kernel⟩
set_option maxRecDepth 100000 in
set_option maxHeartbeats 4000000 in
theorem kX7_lay (l : Launch) (Z : GZ) (a0 a0_buffer a0_now a0_made a0_history a0_saved a0_closed a0_faces a0_rankOf a0_placeOf a0_counted a0_steps a0_onto a0_goes a0_firstImage : Nat) (o0 : OX7) (res : OX7) (h : fX7_lay o0 = some res) : MV l Z yX7_lay cX7_lay 3 3 67 [.ref a0] [(a0, .inr (7, [.int (q7_thrown o0), .ref a0_buffer, .int (q7_length o0), .int (q7_at o0), .int (q7_from o0), .int (q7_kind o0), .int (q7_number o0), .int (q7_wrong o0), .ref a0_now, .ref a0_made, .ref a0_history, .ref a0_saved, .int (q7_entries o0), .int (q7_isSaved o0), .ref a0_closed, .ref a0_faces, .ref a0_rankOf, .ref a0_placeOf, .int (q7_faceMany o0), .int (q7_isLaid o0), .ref a0_counted, .ref a0_steps, .ref a0_onto, .ref a0_goes, .int (q7_found o0), .int (q7_images o0), .ref a0_firstImage, .int (q7_gathered o0)])), (a0_now, .inl (zI Z, 12, .inl (q7_now o0))), (a0_closed, .inl (zI Z, 256, .inl (q7_closed o0))), (a0_faces, .inl (zI Z, 256, .inl (q7_faces o0))), (a0_rankOf, .inl (zI Z, 256, .inl (q7_rankOf o0))), (a0_placeOf, .inl (zI Z, 256, .inl (q7_placeOf o0)))] [(a0, .inr (7, [.int (q7_thrown o0), .ref a0_buffer, .int (q7_length o0), .int (q7_at o0), .int (q7_from o0), .int (q7_kind o0), .int (q7_number o0), .int (q7_wrong o0), .ref a0_now, .ref a0_made, .ref a0_history, .ref a0_saved, .int (q7_entries o0), .int (q7_isSaved o0), .ref a0_closed, .ref a0_faces, .ref a0_rankOf, .ref a0_placeOf, .int (q7_faceMany res), .int (q7_isLaid res), .ref a0_counted, .ref a0_steps, .ref a0_onto, .ref a0_goes, .int (q7_found o0), .int (q7_images o0), .ref a0_firstImage, .int (q7_gathered o0)])), (a0_now, .inl (zI Z, 12, .inl (q7_now o0))), (a0_closed, .inl (zI Z, 256, .inl (q7_closed res))), (a0_faces, .inl (zI Z, 256, .inl (q7_faces res))), (a0_rankOf, .inl (zI Z, 256, .inl (q7_rankOf res))), (a0_placeOf, .inl (zI Z, 256, .inl (q7_placeOf res)))] := by
  refine MV_of (by decide +kernel) (Nat.le_of_ble_eq_true rfl) (fun {p e s m args below meth c} A R hR Q hQ C hr hlk => ?_)
  unfold fX7_lay at h
  refine g_lv [0] [(0, .ref a0)] rfl ?_
  refine g_aload_n C dX7_lay_0 rfl 0 rfl ?_
  refine g_get C 7 183 gin7 0 rfl rfl 19 (by decide) mw_5_104 rfl rfl dX7_lay_1 ?_
  refine g_if_eq C 8 dX7_lay_4 (by decide) (fun c1 => ?_) (fun c1 => ?_)
  · replace h := it_t c1 h
    refine g_aload_n C dX7_lay_8 rfl 0 rfl ?_
    refine g_iconst C 1 dX7_lay_9 (by decide) ?_
    refine g_put C 7 183 gin7 tyX7 tyX7_ok nmX7 0 rfl rfl 19 (by decide) mw_5_104 rfl rfl (ty := .boolean) (by decide +kernel) rfl rfl (Nat.le_of_ble_eq_true rfl) [(a0, .inr (7, [.int (q7_thrown o0), .ref a0_buffer, .int (q7_length o0), .int (q7_at o0), .int (q7_from o0), .int (q7_kind o0), .int (q7_number o0), .int (q7_wrong o0), .ref a0_now, .ref a0_made, .ref a0_history, .ref a0_saved, .int (q7_entries o0), .int (q7_isSaved o0), .ref a0_closed, .ref a0_faces, .ref a0_rankOf, .ref a0_placeOf, .int (q7_faceMany o0), .int 1, .ref a0_counted, .ref a0_steps, .ref a0_onto, .ref a0_goes, .int (q7_found o0), .int (q7_images o0), .ref a0_firstImage, .int (q7_gathered o0)])), (a0_now, .inl (zI Z, 12, .inl (q7_now o0))), (a0_closed, .inl (zI Z, 256, .inl (q7_closed o0))), (a0_faces, .inl (zI Z, 256, .inl (q7_faces o0))), (a0_rankOf, .inl (zI Z, 256, .inl (q7_rankOf o0))), (a0_placeOf, .inl (zI Z, 256, .inl (q7_placeOf o0)))] rfl dX7_lay_10 ?_
    refine g_iconst C 0 dX7_lay_13 (by decide) ?_
    refine g_istore_n C dX7_lay_14 rfl (by decide) [(1, .int 0), (0, .ref a0)] rfl ?_
    refine g_lv [1, 0] [(0, .ref a0), (1, .int 0)] rfl ?_
    refine g_loop (lvf := fun v2 => [(0, .ref a0), (1, .int v2.1)]) (wsf := fun v2 => [(a0, .inr (7, [.int (q7_thrown o0), .ref a0_buffer, .int (q7_length o0), .int (q7_at o0), .int (q7_from o0), .int (q7_kind o0), .int (q7_number o0), .int (q7_wrong o0), .ref a0_now, .ref a0_made, .ref a0_history, .ref a0_saved, .int (q7_entries o0), .int (q7_isSaved o0), .ref a0_closed, .ref a0_faces, .ref a0_rankOf, .ref a0_placeOf, .int (q7_faceMany o0), .int 1, .ref a0_counted, .ref a0_steps, .ref a0_onto, .ref a0_goes, .int (q7_found o0), .int (q7_images o0), .ref a0_firstImage, .int (q7_gathered o0)])), (a0_now, .inl (zI Z, 12, .inl (q7_now o0))), (a0_closed, .inl (zI Z, 256, .inl v2.2.1)), (a0_faces, .inl (zI Z, 256, .inl (q7_faces o0))), (a0_rankOf, .inl (zI Z, 256, .inl (q7_rankOf o0))), (a0_placeOf, .inl (zI Z, 256, .inl v2.2.2))]) h (fun v2 y1 h hk1 hx1 => ?_)
    refine g_eq (lv1 := [(0, .ref a0), (1, .int v2.1)]) (st1 := []) (ws1 := [(a0, .inr (7, [.int (q7_thrown o0), .ref a0_buffer, .int (q7_length o0), .int (q7_at o0), .int (q7_from o0), .int (q7_kind o0), .int (q7_number o0), .int (q7_wrong o0), .ref a0_now, .ref a0_made, .ref a0_history, .ref a0_saved, .int (q7_entries o0), .int (q7_isSaved o0), .ref a0_closed, .ref a0_faces, .ref a0_rankOf, .ref a0_placeOf, .int (q7_faceMany o0), .int 1, .ref a0_counted, .ref a0_steps, .ref a0_onto, .ref a0_goes, .int (q7_found o0), .int (q7_images o0), .ref a0_firstImage, .int (q7_gathered o0)])), (a0_now, .inl (zI Z, 12, .inl (q7_now o0))), (a0_closed, .inl (zI Z, 256, .inl v2.2.1)), (a0_faces, .inl (zI Z, 256, .inl (q7_faces o0))), (a0_rankOf, .inl (zI Z, 256, .inl (q7_rankOf o0))), (a0_placeOf, .inl (zI Z, 256, .inl v2.2.2))]) rfl rfl rfl rfl ?_
    unfold fX7_lay_L15 at h
    refine g_iload_n C dX7_lay_15 rfl 1 rfl ?_
    refine g_aload_n C dX7_lay_16 rfl 0 rfl ?_
    obtain ⟨r3, hr4, h⟩ := bd_of h
    refine g_callVi C (kX7_all l Z a0 a0_buffer a0_now a0_made a0_history a0_saved a0_closed a0_faces a0_rankOf a0_placeOf a0_counted a0_steps a0_onto a0_goes a0_firstImage (s7_isLaid (s7_placeOf (s7_closed o0 v2.2.1) v2.2.2) 1) r3 hr4) 0 rfl (ci := 7) rfl rfl myX7_all 196 mw_6_96 rfl [0, 1] [2, 3, 4, 5] [4, 5, 0, 1, 2, 3] (wr := [(a0_closed, .inl (zI Z, 256, .inl v2.2.1)), (a0_faces, .inl (zI Z, 256, .inl (q7_faces o0))), (a0_rankOf, .inl (zI Z, 256, .inl (q7_rankOf o0))), (a0_placeOf, .inl (zI Z, 256, .inl v2.2.2))]) rfl rfl (by decide) (by decide) (by decide) [(a0, .inr (7, [.int (q7_thrown o0), .ref a0_buffer, .int (q7_length o0), .int (q7_at o0), .int (q7_from o0), .int (q7_kind o0), .int (q7_number o0), .int (q7_wrong o0), .ref a0_now, .ref a0_made, .ref a0_history, .ref a0_saved, .int (q7_entries o0), .int (q7_isSaved o0), .ref a0_closed, .ref a0_faces, .ref a0_rankOf, .ref a0_placeOf, .int (q7_faceMany o0), .int 1, .ref a0_counted, .ref a0_steps, .ref a0_onto, .ref a0_goes, .int (q7_found o0), .int (q7_images o0), .ref a0_firstImage, .int (q7_gathered o0)])), (a0_now, .inl (zI Z, 12, .inl (q7_now o0))), (a0_closed, .inl (zI Z, 256, .inl v2.2.1)), (a0_faces, .inl (zI Z, 256, .inl (q7_faces o0))), (a0_rankOf, .inl (zI Z, 256, .inl (q7_rankOf o0))), (a0_placeOf, .inl (zI Z, 256, .inl v2.2.2))] rfl (by decide) (Nat.le_of_ble_eq_true rfl) (by rw [hR]; exact Nat.le_of_ble_eq_true rfl) (by rw [hR]; exact Nat.le_of_ble_eq_true rfl) ⟨by rw [hR]; exact Nat.le_of_ble_eq_true rfl, by rw [hR]; exact Nat.le_of_ble_eq_true rfl⟩ rfl dX7_lay_17 ?_
    refine g_icmp_gt C 61 dX7_lay_20 (by decide) (fun c5 => ?_) (fun c5 => ?_)
    · replace h := it_t c5 h
      obtain ⟨r6, h, hy⟩ := ex_of h
      rw [hx1 r6 hy] at h
      refine g_iconst C 0 dX7_lay_61 (by decide) ?_
      refine g_istore_n C dX7_lay_62 rfl (by decide) [(1, .int 0), (0, .ref a0)] rfl ?_
      refine g_lv [1, 0] [(0, .ref a0), (1, .int 0)] rfl ?_
      refine g_loop (lvf := fun v7 => [(0, .ref a0), (1, .int v7.1)]) (wsf := fun v7 => [(a0, .inr (7, [.int (q7_thrown o0), .ref a0_buffer, .int (q7_length o0), .int (q7_at o0), .int (q7_from o0), .int (q7_kind o0), .int (q7_number o0), .int (q7_wrong o0), .ref a0_now, .ref a0_made, .ref a0_history, .ref a0_saved, .int (q7_entries o0), .int (q7_isSaved o0), .ref a0_closed, .ref a0_faces, .ref a0_rankOf, .ref a0_placeOf, .int (q7_faceMany o0), .int 1, .ref a0_counted, .ref a0_steps, .ref a0_onto, .ref a0_goes, .int (q7_found o0), .int (q7_images o0), .ref a0_firstImage, .int (q7_gathered o0)])), (a0_now, .inl (zI Z, 12, .inl (q7_now o0))), (a0_closed, .inl (zI Z, 256, .inl v2.2.1)), (a0_faces, .inl (zI Z, 256, .inl (q7_faces o0))), (a0_rankOf, .inl (zI Z, 256, .inl v7.2)), (a0_placeOf, .inl (zI Z, 256, .inl v2.2.2))]) h (fun v7 y1 h hk1 hx1 => ?_)
      refine g_eq (lv1 := [(0, .ref a0), (1, .int v7.1)]) (st1 := []) (ws1 := [(a0, .inr (7, [.int (q7_thrown o0), .ref a0_buffer, .int (q7_length o0), .int (q7_at o0), .int (q7_from o0), .int (q7_kind o0), .int (q7_number o0), .int (q7_wrong o0), .ref a0_now, .ref a0_made, .ref a0_history, .ref a0_saved, .int (q7_entries o0), .int (q7_isSaved o0), .ref a0_closed, .ref a0_faces, .ref a0_rankOf, .ref a0_placeOf, .int (q7_faceMany o0), .int 1, .ref a0_counted, .ref a0_steps, .ref a0_onto, .ref a0_goes, .int (q7_found o0), .int (q7_images o0), .ref a0_firstImage, .int (q7_gathered o0)])), (a0_now, .inl (zI Z, 12, .inl (q7_now o0))), (a0_closed, .inl (zI Z, 256, .inl v2.2.1)), (a0_faces, .inl (zI Z, 256, .inl (q7_faces o0))), (a0_rankOf, .inl (zI Z, 256, .inl v7.2)), (a0_placeOf, .inl (zI Z, 256, .inl v2.2.2))]) rfl rfl rfl rfl ?_
      unfold fX7_lay_L63 at h
      refine g_iload_n C dX7_lay_63 rfl 1 rfl ?_
      refine g_aload_n C dX7_lay_64 rfl 0 rfl ?_
      obtain ⟨r8, hr9, h⟩ := bd_of h
      refine g_callVi C (kX7_all l Z a0 a0_buffer a0_now a0_made a0_history a0_saved a0_closed a0_faces a0_rankOf a0_placeOf a0_counted a0_steps a0_onto a0_goes a0_firstImage (s7_isLaid (s7_placeOf (s7_rankOf (s7_closed o0 v2.2.1) v7.2) v2.2.2) 1) r8 hr9) 0 rfl (ci := 7) rfl rfl myX7_all 196 mw_6_96 rfl [0, 1] [2, 3, 4, 5] [4, 5, 0, 1, 2, 3] (wr := [(a0_closed, .inl (zI Z, 256, .inl v2.2.1)), (a0_faces, .inl (zI Z, 256, .inl (q7_faces o0))), (a0_rankOf, .inl (zI Z, 256, .inl v7.2)), (a0_placeOf, .inl (zI Z, 256, .inl v2.2.2))]) rfl rfl (by decide) (by decide) (by decide) [(a0, .inr (7, [.int (q7_thrown o0), .ref a0_buffer, .int (q7_length o0), .int (q7_at o0), .int (q7_from o0), .int (q7_kind o0), .int (q7_number o0), .int (q7_wrong o0), .ref a0_now, .ref a0_made, .ref a0_history, .ref a0_saved, .int (q7_entries o0), .int (q7_isSaved o0), .ref a0_closed, .ref a0_faces, .ref a0_rankOf, .ref a0_placeOf, .int (q7_faceMany o0), .int 1, .ref a0_counted, .ref a0_steps, .ref a0_onto, .ref a0_goes, .int (q7_found o0), .int (q7_images o0), .ref a0_firstImage, .int (q7_gathered o0)])), (a0_now, .inl (zI Z, 12, .inl (q7_now o0))), (a0_closed, .inl (zI Z, 256, .inl v2.2.1)), (a0_faces, .inl (zI Z, 256, .inl (q7_faces o0))), (a0_rankOf, .inl (zI Z, 256, .inl v7.2)), (a0_placeOf, .inl (zI Z, 256, .inl v2.2.2))] rfl (by decide) (Nat.le_of_ble_eq_true rfl) (by rw [hR]; exact Nat.le_of_ble_eq_true rfl) (by rw [hR]; exact Nat.le_of_ble_eq_true rfl) ⟨by rw [hR]; exact Nat.le_of_ble_eq_true rfl, by rw [hR]; exact Nat.le_of_ble_eq_true rfl⟩ rfl dX7_lay_65 ?_
      refine g_icmp_gt C 92 dX7_lay_68 (by decide) (fun c10 => ?_) (fun c10 => ?_)
      · replace h := it_t c10 h
        obtain ⟨r11, h, hy⟩ := ex_of h
        rw [hx1 r11 hy] at h
        refine g_aload_n C dX7_lay_92 rfl 0 rfl ?_
        refine g_iconst C 0 dX7_lay_93 (by decide) ?_
        refine g_put C 7 214 gin7 tyX7 tyX7_ok nmX7 0 rfl rfl 18 (by decide) mw_5_103 rfl rfl (ty := .int) (by decide +kernel) rfl rfl (Nat.le_of_ble_eq_true rfl) [(a0, .inr (7, [.int (q7_thrown o0), .ref a0_buffer, .int (q7_length o0), .int (q7_at o0), .int (q7_from o0), .int (q7_kind o0), .int (q7_number o0), .int (q7_wrong o0), .ref a0_now, .ref a0_made, .ref a0_history, .ref a0_saved, .int (q7_entries o0), .int (q7_isSaved o0), .ref a0_closed, .ref a0_faces, .ref a0_rankOf, .ref a0_placeOf, .int 0, .int 1, .ref a0_counted, .ref a0_steps, .ref a0_onto, .ref a0_goes, .int (q7_found o0), .int (q7_images o0), .ref a0_firstImage, .int (q7_gathered o0)])), (a0_now, .inl (zI Z, 12, .inl (q7_now o0))), (a0_closed, .inl (zI Z, 256, .inl v2.2.1)), (a0_faces, .inl (zI Z, 256, .inl (q7_faces o0))), (a0_rankOf, .inl (zI Z, 256, .inl v7.2)), (a0_placeOf, .inl (zI Z, 256, .inl v2.2.2))] rfl dX7_lay_94 ?_
        refine g_iconst C 0 dX7_lay_97 (by decide) ?_
        refine g_istore_n C dX7_lay_98 rfl (by decide) [(1, .int 0), (0, .ref a0)] rfl ?_
        refine g_lv [1, 0] [(0, .ref a0), (1, .int 0)] rfl ?_
        refine g_loop (lvf := fun v12 => [(0, .ref a0), (1, .int v12.1)]) (wsf := fun v12 => [(a0, .inr (7, [.int (q7_thrown o0), .ref a0_buffer, .int (q7_length o0), .int (q7_at o0), .int (q7_from o0), .int (q7_kind o0), .int (q7_number o0), .int (q7_wrong o0), .ref a0_now, .ref a0_made, .ref a0_history, .ref a0_saved, .int (q7_entries o0), .int (q7_isSaved o0), .ref a0_closed, .ref a0_faces, .ref a0_rankOf, .ref a0_placeOf, .int v12.2.1, .int 1, .ref a0_counted, .ref a0_steps, .ref a0_onto, .ref a0_goes, .int (q7_found o0), .int (q7_images o0), .ref a0_firstImage, .int (q7_gathered o0)])), (a0_now, .inl (zI Z, 12, .inl (q7_now o0))), (a0_closed, .inl (zI Z, 256, .inl v2.2.1)), (a0_faces, .inl (zI Z, 256, .inl v12.2.2.1)), (a0_rankOf, .inl (zI Z, 256, .inl v7.2)), (a0_placeOf, .inl (zI Z, 256, .inl v12.2.2.2))]) h (fun v12 y1 h hk1 hx1 => ?_)
        refine g_eq (lv1 := [(0, .ref a0), (1, .int v12.1)]) (st1 := []) (ws1 := [(a0, .inr (7, [.int (q7_thrown o0), .ref a0_buffer, .int (q7_length o0), .int (q7_at o0), .int (q7_from o0), .int (q7_kind o0), .int (q7_number o0), .int (q7_wrong o0), .ref a0_now, .ref a0_made, .ref a0_history, .ref a0_saved, .int (q7_entries o0), .int (q7_isSaved o0), .ref a0_closed, .ref a0_faces, .ref a0_rankOf, .ref a0_placeOf, .int v12.2.1, .int 1, .ref a0_counted, .ref a0_steps, .ref a0_onto, .ref a0_goes, .int (q7_found o0), .int (q7_images o0), .ref a0_firstImage, .int (q7_gathered o0)])), (a0_now, .inl (zI Z, 12, .inl (q7_now o0))), (a0_closed, .inl (zI Z, 256, .inl v2.2.1)), (a0_faces, .inl (zI Z, 256, .inl v12.2.2.1)), (a0_rankOf, .inl (zI Z, 256, .inl v7.2)), (a0_placeOf, .inl (zI Z, 256, .inl v12.2.2.2))]) rfl rfl rfl rfl ?_
        unfold fX7_lay_L99 at h
        refine g_iload_n C dX7_lay_99 rfl 1 rfl ?_
        refine g_bipush C 8 dX7_lay_100 (by decide) ?_
        refine g_icmp_gt C 177 dX7_lay_102 (by decide) (fun c13 => ?_) (fun c13 => ?_)
        · replace h := it_t c13 h
          obtain ⟨r14, h, hy⟩ := ex_of h
          rw [hx1 r14 hy] at h
          obtain rfl := Option.some.inj h
          subst hQ
          exact g_vret C hr hlk dX7_lay_177 [0, 1, 2, 3, 4, 5] rfl (by decide)
        · replace h := it_f c13 h
          refine g_iconst C 0 dX7_lay_105 (by decide) ?_
          refine g_istore_n C dX7_lay_106 rfl (by decide) [(2, .int 0), (0, .ref a0), (1, .int v12.1)] rfl ?_
          refine g_lv [1, 2, 0] [(0, .ref a0), (1, .int v12.1), (2, .int 0)] rfl ?_
          refine g_loop (lvf := fun v15 => [(0, .ref a0), (1, .int v12.1), (2, .int v15.1)]) (wsf := fun v15 => [(a0, .inr (7, [.int (q7_thrown o0), .ref a0_buffer, .int (q7_length o0), .int (q7_at o0), .int (q7_from o0), .int (q7_kind o0), .int (q7_number o0), .int (q7_wrong o0), .ref a0_now, .ref a0_made, .ref a0_history, .ref a0_saved, .int (q7_entries o0), .int (q7_isSaved o0), .ref a0_closed, .ref a0_faces, .ref a0_rankOf, .ref a0_placeOf, .int v15.2.1, .int 1, .ref a0_counted, .ref a0_steps, .ref a0_onto, .ref a0_goes, .int (q7_found o0), .int (q7_images o0), .ref a0_firstImage, .int (q7_gathered o0)])), (a0_now, .inl (zI Z, 12, .inl (q7_now o0))), (a0_closed, .inl (zI Z, 256, .inl v2.2.1)), (a0_faces, .inl (zI Z, 256, .inl v15.2.2.1)), (a0_rankOf, .inl (zI Z, 256, .inl v7.2)), (a0_placeOf, .inl (zI Z, 256, .inl v15.2.2.2))]) h (fun v15 y2 h hk2 hx2 => ?_)
          refine g_eq (lv1 := [(0, .ref a0), (1, .int v12.1), (2, .int v15.1)]) (st1 := []) (ws1 := [(a0, .inr (7, [.int (q7_thrown o0), .ref a0_buffer, .int (q7_length o0), .int (q7_at o0), .int (q7_from o0), .int (q7_kind o0), .int (q7_number o0), .int (q7_wrong o0), .ref a0_now, .ref a0_made, .ref a0_history, .ref a0_saved, .int (q7_entries o0), .int (q7_isSaved o0), .ref a0_closed, .ref a0_faces, .ref a0_rankOf, .ref a0_placeOf, .int v15.2.1, .int 1, .ref a0_counted, .ref a0_steps, .ref a0_onto, .ref a0_goes, .int (q7_found o0), .int (q7_images o0), .ref a0_firstImage, .int (q7_gathered o0)])), (a0_now, .inl (zI Z, 12, .inl (q7_now o0))), (a0_closed, .inl (zI Z, 256, .inl v2.2.1)), (a0_faces, .inl (zI Z, 256, .inl v15.2.2.1)), (a0_rankOf, .inl (zI Z, 256, .inl v7.2)), (a0_placeOf, .inl (zI Z, 256, .inl v15.2.2.2))]) rfl rfl rfl rfl ?_
          unfold fX7_lay_L107 at h
          refine g_iload_n C dX7_lay_107 rfl 2 rfl ?_
          refine g_aload_n C dX7_lay_108 rfl 0 rfl ?_
          obtain ⟨r16, hr17, h⟩ := bd_of h
          refine g_callVi C (kX7_all l Z a0 a0_buffer a0_now a0_made a0_history a0_saved a0_closed a0_faces a0_rankOf a0_placeOf a0_counted a0_steps a0_onto a0_goes a0_firstImage (s7_isLaid (s7_faceMany (s7_placeOf (s7_rankOf (s7_faces (s7_closed o0 v2.2.1) v15.2.2.1) v7.2) v15.2.2.2) v15.2.1) 1) r16 hr17) 0 rfl (ci := 7) rfl rfl myX7_all 196 mw_6_96 rfl [0, 1] [2, 3, 4, 5] [4, 5, 0, 1, 2, 3] (wr := [(a0_closed, .inl (zI Z, 256, .inl v2.2.1)), (a0_faces, .inl (zI Z, 256, .inl v15.2.2.1)), (a0_rankOf, .inl (zI Z, 256, .inl v7.2)), (a0_placeOf, .inl (zI Z, 256, .inl v15.2.2.2))]) rfl rfl (by decide) (by decide) (by decide) [(a0, .inr (7, [.int (q7_thrown o0), .ref a0_buffer, .int (q7_length o0), .int (q7_at o0), .int (q7_from o0), .int (q7_kind o0), .int (q7_number o0), .int (q7_wrong o0), .ref a0_now, .ref a0_made, .ref a0_history, .ref a0_saved, .int (q7_entries o0), .int (q7_isSaved o0), .ref a0_closed, .ref a0_faces, .ref a0_rankOf, .ref a0_placeOf, .int v15.2.1, .int 1, .ref a0_counted, .ref a0_steps, .ref a0_onto, .ref a0_goes, .int (q7_found o0), .int (q7_images o0), .ref a0_firstImage, .int (q7_gathered o0)])), (a0_now, .inl (zI Z, 12, .inl (q7_now o0))), (a0_closed, .inl (zI Z, 256, .inl v2.2.1)), (a0_faces, .inl (zI Z, 256, .inl v15.2.2.1)), (a0_rankOf, .inl (zI Z, 256, .inl v7.2)), (a0_placeOf, .inl (zI Z, 256, .inl v15.2.2.2))] rfl (by decide) (Nat.le_of_ble_eq_true rfl) (by rw [hR]; exact Nat.le_of_ble_eq_true rfl) (by rw [hR]; exact Nat.le_of_ble_eq_true rfl) ⟨by rw [hR]; exact Nat.le_of_ble_eq_true rfl, by rw [hR]; exact Nat.le_of_ble_eq_true rfl⟩ rfl dX7_lay_109 ?_
          refine g_icmp_gt C 171 dX7_lay_112 (by decide) (fun c18 => ?_) (fun c18 => ?_)
          · replace h := it_t c18 h
            obtain ⟨r19, h, hy⟩ := ex_of h
            rw [hx2 r19 hy] at h
            refine g_iinc C (v12.1 + 1) dX7_lay_171 1 rfl rfl (by decide) [(1, .int (v12.1 + 1)), (0, .ref a0), (2, .int v15.1)] rfl ?_
            refine g_goto C 99 dX7_lay_174 (by decide) ?_
            refine g_lv [1, 0] [(0, .ref a0), (1, .int (v12.1 + 1))] rfl ?_
            exact hk1 ((v12.1 + 1), v15.2.1, v15.2.2.1, v15.2.2.2) (Option.some.inj h).symm
          · replace h := it_f c18 h
            refine g_aload_n C dX7_lay_115 rfl 0 rfl ?_
            refine g_get C 7 34 gin7 0 rfl rfl 17 (by decide) mw_5_102 rfl rfl dX7_lay_116 ?_
            refine g_iload_n C dX7_lay_119 rfl 2 rfl ?_
            obtain ⟨hi20, h⟩ := ck_of h
            refine g_iald C 5 rfl hi20 dX7_lay_120 ?_
            refine g_iconst C (-1) dX7_lay_121 (by decide) ?_
            refine g_icmp_eq C 165 dX7_lay_122 (by decide) (fun c21 => ?_) (fun c21 => ?_)
            · replace h := it_t c21 h
              refine g_iinc C (v15.1 + 1) dX7_lay_165 2 rfl rfl (by decide) [(2, .int (v15.1 + 1)), (0, .ref a0), (1, .int v12.1)] rfl ?_
              refine g_goto C 107 dX7_lay_168 (by decide) ?_
              refine g_lv [1, 2, 0] [(0, .ref a0), (1, .int v12.1), (2, .int (v15.1 + 1))] rfl ?_
              exact hk2 ((v15.1 + 1), v15.2.1, v15.2.2.1, v15.2.2.2) (Option.some.inj h).symm
            · replace h := it_f c21 h
              refine g_aload_n C dX7_lay_125 rfl 0 rfl ?_
              refine g_get C 7 31 gin7 0 rfl rfl 16 (by decide) mw_5_101 rfl rfl dX7_lay_126 ?_
              refine g_iload_n C dX7_lay_129 rfl 2 rfl ?_
              obtain ⟨hi22, h⟩ := ck_of h
              refine g_iald C 4 rfl hi22 dX7_lay_130 ?_
              refine g_iload_n C dX7_lay_131 rfl 1 rfl ?_
              refine g_icmp_ne C 165 dX7_lay_132 (by decide) (fun c23 => ?_) (fun c23 => ?_)
              · replace h := it_f c23 h
                refine g_iinc C (v15.1 + 1) dX7_lay_165 2 rfl rfl (by decide) [(2, .int (v15.1 + 1)), (0, .ref a0), (1, .int v12.1)] rfl ?_
                refine g_goto C 107 dX7_lay_168 (by decide) ?_
                refine g_lv [1, 2, 0] [(0, .ref a0), (1, .int v12.1), (2, .int (v15.1 + 1))] rfl ?_
                exact hk2 ((v15.1 + 1), v15.2.1, v15.2.2.1, v15.2.2.2) (Option.some.inj h).symm
              · replace h := it_t c23 h
                refine g_aload_n C dX7_lay_135 rfl 0 rfl ?_
                refine g_get C 7 28 gin7 0 rfl rfl 15 (by decide) mw_5_100 rfl rfl dX7_lay_136 ?_
                refine g_aload_n C dX7_lay_139 rfl 0 rfl ?_
                refine g_get C 7 214 gin7 0 rfl rfl 18 (by decide) mw_5_103 rfl rfl dX7_lay_140 ?_
                refine g_iload_n C dX7_lay_143 rfl 2 rfl ?_
                obtain ⟨hi24, h⟩ := ck_of h
                refine g_iast C 3 rfl hi24 [(a0, .inr (7, [.int (q7_thrown o0), .ref a0_buffer, .int (q7_length o0), .int (q7_at o0), .int (q7_from o0), .int (q7_kind o0), .int (q7_number o0), .int (q7_wrong o0), .ref a0_now, .ref a0_made, .ref a0_history, .ref a0_saved, .int (q7_entries o0), .int (q7_isSaved o0), .ref a0_closed, .ref a0_faces, .ref a0_rankOf, .ref a0_placeOf, .int v15.2.1, .int 1, .ref a0_counted, .ref a0_steps, .ref a0_onto, .ref a0_goes, .int (q7_found o0), .int (q7_images o0), .ref a0_firstImage, .int (q7_gathered o0)])), (a0_now, .inl (zI Z, 12, .inl (q7_now o0))), (a0_closed, .inl (zI Z, 256, .inl v2.2.1)), (a0_faces, .inl (zI Z, 256, .inl (upd v15.2.2.1 (ix v15.2.1) v15.1))), (a0_rankOf, .inl (zI Z, 256, .inl v7.2)), (a0_placeOf, .inl (zI Z, 256, .inl v15.2.2.2))] rfl dX7_lay_144 ?_
                refine g_aload_n C dX7_lay_145 rfl 0 rfl ?_
                refine g_get C 7 34 gin7 0 rfl rfl 17 (by decide) mw_5_102 rfl rfl dX7_lay_146 ?_
                refine g_iload_n C dX7_lay_149 rfl 2 rfl ?_
                refine g_aload_n C dX7_lay_150 rfl 0 rfl ?_
                refine g_get C 7 214 gin7 0 rfl rfl 18 (by decide) mw_5_103 rfl rfl dX7_lay_151 ?_
                obtain ⟨hi25, h⟩ := ck_of h
                refine g_iast C 5 rfl hi25 [(a0, .inr (7, [.int (q7_thrown o0), .ref a0_buffer, .int (q7_length o0), .int (q7_at o0), .int (q7_from o0), .int (q7_kind o0), .int (q7_number o0), .int (q7_wrong o0), .ref a0_now, .ref a0_made, .ref a0_history, .ref a0_saved, .int (q7_entries o0), .int (q7_isSaved o0), .ref a0_closed, .ref a0_faces, .ref a0_rankOf, .ref a0_placeOf, .int v15.2.1, .int 1, .ref a0_counted, .ref a0_steps, .ref a0_onto, .ref a0_goes, .int (q7_found o0), .int (q7_images o0), .ref a0_firstImage, .int (q7_gathered o0)])), (a0_now, .inl (zI Z, 12, .inl (q7_now o0))), (a0_closed, .inl (zI Z, 256, .inl v2.2.1)), (a0_faces, .inl (zI Z, 256, .inl (upd v15.2.2.1 (ix v15.2.1) v15.1))), (a0_rankOf, .inl (zI Z, 256, .inl v7.2)), (a0_placeOf, .inl (zI Z, 256, .inl (upd v15.2.2.2 (ix v15.1) v15.2.1)))] rfl dX7_lay_154 ?_
                refine g_aload_n C dX7_lay_155 rfl 0 rfl ?_
                refine g_dup C dX7_lay_156 rfl ?_
                refine g_get C 7 214 gin7 0 rfl rfl 18 (by decide) mw_5_103 rfl rfl dX7_lay_157 ?_
                refine g_iconst C 1 dX7_lay_160 (by decide) ?_
                refine g_iadd C dX7_lay_161 ?_
                refine g_put C 7 214 gin7 tyX7 tyX7_ok nmX7 0 rfl rfl 18 (by decide) mw_5_103 rfl rfl (ty := .int) (by decide +kernel) rfl rfl (Nat.le_of_ble_eq_true rfl) [(a0, .inr (7, [.int (q7_thrown o0), .ref a0_buffer, .int (q7_length o0), .int (q7_at o0), .int (q7_from o0), .int (q7_kind o0), .int (q7_number o0), .int (q7_wrong o0), .ref a0_now, .ref a0_made, .ref a0_history, .ref a0_saved, .int (q7_entries o0), .int (q7_isSaved o0), .ref a0_closed, .ref a0_faces, .ref a0_rankOf, .ref a0_placeOf, .int (v15.2.1 + 1), .int 1, .ref a0_counted, .ref a0_steps, .ref a0_onto, .ref a0_goes, .int (q7_found o0), .int (q7_images o0), .ref a0_firstImage, .int (q7_gathered o0)])), (a0_now, .inl (zI Z, 12, .inl (q7_now o0))), (a0_closed, .inl (zI Z, 256, .inl v2.2.1)), (a0_faces, .inl (zI Z, 256, .inl (upd v15.2.2.1 (ix v15.2.1) v15.1))), (a0_rankOf, .inl (zI Z, 256, .inl v7.2)), (a0_placeOf, .inl (zI Z, 256, .inl (upd v15.2.2.2 (ix v15.1) v15.2.1)))] rfl dX7_lay_162 ?_
                refine g_iinc C (v15.1 + 1) dX7_lay_165 2 rfl rfl (by decide) [(2, .int (v15.1 + 1)), (0, .ref a0), (1, .int v12.1)] rfl ?_
                refine g_goto C 107 dX7_lay_168 (by decide) ?_
                refine g_lv [1, 2, 0] [(0, .ref a0), (1, .int v12.1), (2, .int (v15.1 + 1))] rfl ?_
                exact hk2 ((v15.1 + 1), (v15.2.1 + 1), (upd v15.2.2.1 (ix v15.2.1) v15.1), (upd v15.2.2.2 (ix v15.1) v15.2.1)) (Option.some.inj h).symm
      · replace h := it_f c10 h
        refine g_aload_n C dX7_lay_71 rfl 0 rfl ?_
        refine g_get C 7 34 gin7 0 rfl rfl 17 (by decide) mw_5_102 rfl rfl dX7_lay_72 ?_
        refine g_iload_n C dX7_lay_75 rfl 1 rfl ?_
        obtain ⟨hi26, h⟩ := ck_of h
        refine g_iald C 5 rfl hi26 dX7_lay_76 ?_
        refine g_iconst C (-1) dX7_lay_77 (by decide) ?_
        refine g_icmp_eq C 86 dX7_lay_78 (by decide) (fun c27 => ?_) (fun c27 => ?_)
        · replace h := it_t c27 h
          refine g_iinc C (v7.1 + 1) dX7_lay_86 1 rfl rfl (by decide) [(1, .int (v7.1 + 1)), (0, .ref a0)] rfl ?_
          refine g_goto C 63 dX7_lay_89 (by decide) ?_
          refine g_lv [1, 0] [(0, .ref a0), (1, .int (v7.1 + 1))] rfl ?_
          exact hk1 ((v7.1 + 1), v7.2) (Option.some.inj h).symm
        · replace h := it_f c27 h
          refine g_aload_n C dX7_lay_81 rfl 0 rfl ?_
          refine g_iload_n C dX7_lay_82 rfl 1 rfl ?_
          obtain ⟨r28, hr29, h⟩ := bd_of h
          refine g_callVv C (kX7_layRank l Z a0 a0_buffer a0_now a0_made a0_history a0_saved a0_closed a0_faces a0_rankOf a0_placeOf a0_counted a0_steps a0_onto a0_goes a0_firstImage (s7_isLaid (s7_placeOf (s7_rankOf (s7_closed o0 v2.2.1) v7.2) v2.2.2) 1) v7.1 r28 hr29) 0 rfl (ci := 7) rfl rfl myX7_layRank 211 mw_6_131 rfl [0, 2, 4, 5] [1, 3] [2, 0, 3, 1, 4, 5] (wr := [(a0_now, .inl (zI Z, 12, .inl (q7_now o0))), (a0_faces, .inl (zI Z, 256, .inl (q7_faces o0)))]) rfl rfl (by decide) (by decide) (by decide) [(a0, .inr (7, [.int (q7_thrown o0), .ref a0_buffer, .int (q7_length o0), .int (q7_at o0), .int (q7_from o0), .int (q7_kind o0), .int (q7_number o0), .int (q7_wrong o0), .ref a0_now, .ref a0_made, .ref a0_history, .ref a0_saved, .int (q7_entries o0), .int (q7_isSaved o0), .ref a0_closed, .ref a0_faces, .ref a0_rankOf, .ref a0_placeOf, .int (q7_faceMany o0), .int 1, .ref a0_counted, .ref a0_steps, .ref a0_onto, .ref a0_goes, .int (q7_found o0), .int (q7_images o0), .ref a0_firstImage, .int (q7_gathered o0)])), (a0_now, .inl (zI Z, 12, .inl (q7_now o0))), (a0_closed, .inl (zI Z, 256, .inl v2.2.1)), (a0_faces, .inl (zI Z, 256, .inl (q7_faces o0))), (a0_rankOf, .inl (zI Z, 256, .inl (q7_rankOf r28))), (a0_placeOf, .inl (zI Z, 256, .inl v2.2.2))] rfl (by decide) (Nat.le_of_ble_eq_true rfl) (by rw [hR]; exact Nat.le_of_ble_eq_true rfl) (by rw [hR]; exact Nat.le_of_ble_eq_true rfl) ⟨by rw [hR]; exact Nat.le_of_ble_eq_true rfl, by rw [hR]; exact Nat.le_of_ble_eq_true rfl⟩ rfl dX7_lay_83 ?_
          refine g_iinc C (v7.1 + 1) dX7_lay_86 1 rfl rfl (by decide) [(1, .int (v7.1 + 1)), (0, .ref a0)] rfl ?_
          refine g_goto C 63 dX7_lay_89 (by decide) ?_
          refine g_lv [1, 0] [(0, .ref a0), (1, .int (v7.1 + 1))] rfl ?_
          exact hk1 ((v7.1 + 1), (q7_rankOf r28)) (Option.some.inj h).symm
    · replace h := it_f c5 h
      refine g_aload_n C dX7_lay_23 rfl 0 rfl ?_
      refine g_get C 7 25 gin7 0 rfl rfl 14 (by decide) mw_5_99 rfl rfl dX7_lay_24 ?_
      refine g_iload_n C dX7_lay_27 rfl 1 rfl ?_
      refine g_aload_n C dX7_lay_28 rfl 0 rfl ?_
      refine g_iload_n C dX7_lay_29 rfl 1 rfl ?_
      obtain ⟨r30, hr31, h⟩ := bd_of h
      refine g_callVi C (kX7_closureOf l Z a0 a0_buffer a0_now a0_made a0_history a0_saved a0_closed a0_faces a0_rankOf a0_placeOf a0_counted a0_steps a0_onto a0_goes a0_firstImage (s7_isLaid (s7_placeOf (s7_closed o0 v2.2.1) v2.2.2) 1) v2.1 r30 hr31) 0 rfl (ci := 7) rfl rfl myX7_closureOf 208 mw_6_124 rfl [0, 1] [2, 3, 4, 5] [4, 5, 0, 1, 2, 3] (wr := [(a0_closed, .inl (zI Z, 256, .inl v2.2.1)), (a0_faces, .inl (zI Z, 256, .inl (q7_faces o0))), (a0_rankOf, .inl (zI Z, 256, .inl (q7_rankOf o0))), (a0_placeOf, .inl (zI Z, 256, .inl v2.2.2))]) rfl rfl (by decide) (by decide) (by decide) [(a0, .inr (7, [.int (q7_thrown o0), .ref a0_buffer, .int (q7_length o0), .int (q7_at o0), .int (q7_from o0), .int (q7_kind o0), .int (q7_number o0), .int (q7_wrong o0), .ref a0_now, .ref a0_made, .ref a0_history, .ref a0_saved, .int (q7_entries o0), .int (q7_isSaved o0), .ref a0_closed, .ref a0_faces, .ref a0_rankOf, .ref a0_placeOf, .int (q7_faceMany o0), .int 1, .ref a0_counted, .ref a0_steps, .ref a0_onto, .ref a0_goes, .int (q7_found o0), .int (q7_images o0), .ref a0_firstImage, .int (q7_gathered o0)])), (a0_now, .inl (zI Z, 12, .inl (q7_now o0))), (a0_closed, .inl (zI Z, 256, .inl v2.2.1)), (a0_faces, .inl (zI Z, 256, .inl (q7_faces o0))), (a0_rankOf, .inl (zI Z, 256, .inl (q7_rankOf o0))), (a0_placeOf, .inl (zI Z, 256, .inl v2.2.2))] rfl (by decide) (Nat.le_of_ble_eq_true rfl) (by rw [hR]; exact Nat.le_of_ble_eq_true rfl) (by rw [hR]; exact Nat.le_of_ble_eq_true rfl) ⟨by rw [hR]; exact Nat.le_of_ble_eq_true rfl, by rw [hR]; exact Nat.le_of_ble_eq_true rfl⟩ rfl dX7_lay_30 ?_
      obtain ⟨hi32, h⟩ := ck_of h
      refine g_iast C 2 rfl hi32 [(a0, .inr (7, [.int (q7_thrown o0), .ref a0_buffer, .int (q7_length o0), .int (q7_at o0), .int (q7_from o0), .int (q7_kind o0), .int (q7_number o0), .int (q7_wrong o0), .ref a0_now, .ref a0_made, .ref a0_history, .ref a0_saved, .int (q7_entries o0), .int (q7_isSaved o0), .ref a0_closed, .ref a0_faces, .ref a0_rankOf, .ref a0_placeOf, .int (q7_faceMany o0), .int 1, .ref a0_counted, .ref a0_steps, .ref a0_onto, .ref a0_goes, .int (q7_found o0), .int (q7_images o0), .ref a0_firstImage, .int (q7_gathered o0)])), (a0_now, .inl (zI Z, 12, .inl (q7_now o0))), (a0_closed, .inl (zI Z, 256, .inl (upd v2.2.1 (ix v2.1) r30))), (a0_faces, .inl (zI Z, 256, .inl (q7_faces o0))), (a0_rankOf, .inl (zI Z, 256, .inl (q7_rankOf o0))), (a0_placeOf, .inl (zI Z, 256, .inl v2.2.2))] rfl dX7_lay_33 ?_
      refine g_aload_n C dX7_lay_34 rfl 0 rfl ?_
      refine g_get C 7 34 gin7 0 rfl rfl 17 (by decide) mw_5_102 rfl rfl dX7_lay_35 ?_
      refine g_iload_n C dX7_lay_38 rfl 1 rfl ?_
      refine g_aload_n C dX7_lay_39 rfl 0 rfl ?_
      refine g_get C 7 25 gin7 0 rfl rfl 14 (by decide) mw_5_99 rfl rfl dX7_lay_40 ?_
      refine g_iload_n C dX7_lay_43 rfl 1 rfl ?_
      obtain ⟨hi33, h⟩ := ck_of h
      refine g_iald C 2 rfl hi33 dX7_lay_44 ?_
      refine g_iload_n C dX7_lay_45 rfl 1 rfl ?_
      refine g_icmp_ne C 53 dX7_lay_46 (by decide) (fun c34 => ?_) (fun c34 => ?_)
      · replace h := it_f c34 h
        refine g_iconst C (-1) dX7_lay_53 (by decide) ?_
        obtain ⟨hi35, h⟩ := ck_of h
        refine g_iast C 5 rfl hi35 [(a0, .inr (7, [.int (q7_thrown o0), .ref a0_buffer, .int (q7_length o0), .int (q7_at o0), .int (q7_from o0), .int (q7_kind o0), .int (q7_number o0), .int (q7_wrong o0), .ref a0_now, .ref a0_made, .ref a0_history, .ref a0_saved, .int (q7_entries o0), .int (q7_isSaved o0), .ref a0_closed, .ref a0_faces, .ref a0_rankOf, .ref a0_placeOf, .int (q7_faceMany o0), .int 1, .ref a0_counted, .ref a0_steps, .ref a0_onto, .ref a0_goes, .int (q7_found o0), .int (q7_images o0), .ref a0_firstImage, .int (q7_gathered o0)])), (a0_now, .inl (zI Z, 12, .inl (q7_now o0))), (a0_closed, .inl (zI Z, 256, .inl (upd v2.2.1 (ix v2.1) r30))), (a0_faces, .inl (zI Z, 256, .inl (q7_faces o0))), (a0_rankOf, .inl (zI Z, 256, .inl (q7_rankOf o0))), (a0_placeOf, .inl (zI Z, 256, .inl (upd v2.2.2 (ix v2.1) (-1))))] rfl dX7_lay_54 ?_
        refine g_iinc C (v2.1 + 1) dX7_lay_55 1 rfl rfl (by decide) [(1, .int (v2.1 + 1)), (0, .ref a0)] rfl ?_
        refine g_goto C 15 dX7_lay_58 (by decide) ?_
        refine g_lv [1, 0] [(0, .ref a0), (1, .int (v2.1 + 1))] rfl ?_
        have q9 := hk1 ((v2.1 + 1), (upd v2.2.1 (ix v2.1) r30), (upd v2.2.2 (ix v2.1) (-1))) (Option.some.inj h).symm
        dsimp only at q9
        exact q9
      · replace h := it_t c34 h
        refine g_iconst C 0 dX7_lay_49 (by decide) ?_
        refine g_goto C 54 dX7_lay_50 (by decide) ?_
        obtain ⟨hi36, h⟩ := ck_of h
        refine g_iast C 5 rfl hi36 [(a0, .inr (7, [.int (q7_thrown o0), .ref a0_buffer, .int (q7_length o0), .int (q7_at o0), .int (q7_from o0), .int (q7_kind o0), .int (q7_number o0), .int (q7_wrong o0), .ref a0_now, .ref a0_made, .ref a0_history, .ref a0_saved, .int (q7_entries o0), .int (q7_isSaved o0), .ref a0_closed, .ref a0_faces, .ref a0_rankOf, .ref a0_placeOf, .int (q7_faceMany o0), .int 1, .ref a0_counted, .ref a0_steps, .ref a0_onto, .ref a0_goes, .int (q7_found o0), .int (q7_images o0), .ref a0_firstImage, .int (q7_gathered o0)])), (a0_now, .inl (zI Z, 12, .inl (q7_now o0))), (a0_closed, .inl (zI Z, 256, .inl (upd v2.2.1 (ix v2.1) r30))), (a0_faces, .inl (zI Z, 256, .inl (q7_faces o0))), (a0_rankOf, .inl (zI Z, 256, .inl (q7_rankOf o0))), (a0_placeOf, .inl (zI Z, 256, .inl (upd v2.2.2 (ix v2.1) 0)))] rfl dX7_lay_54 ?_
        refine g_iinc C (v2.1 + 1) dX7_lay_55 1 rfl rfl (by decide) [(1, .int (v2.1 + 1)), (0, .ref a0)] rfl ?_
        refine g_goto C 15 dX7_lay_58 (by decide) ?_
        refine g_lv [1, 0] [(0, .ref a0), (1, .int (v2.1 + 1))] rfl ?_
        exact hk1 ((v2.1 + 1), (upd v2.2.1 (ix v2.1) r30), (upd v2.2.2 (ix v2.1) 0)) (Option.some.inj h).symm
  · replace h := it_f c1 h
    obtain rfl := Option.some.inj h
    subst hQ
    exact g_vret C hr hlk dX7_lay_7 [0, 1, 2, 3, 4, 5] rfl (by decide)
def fX7_isFace (o0 : OX7) (p1 : Int32) : Option (Int32 × OX7) :=
  (fX7_lay o0).bind fun r1 =>
  ((fX7_in p1 0 ((q7_faceMany r1) - 1)).bind fun r3 =>
  (ck (is01 r3) (some (r3, (s7_isLaid (s7_faceMany (s7_placeOf (s7_rankOf (s7_faces (s7_closed o0 (q7_closed r1)) (q7_faces r1)) (q7_rankOf r1)) (q7_placeOf r1)) (q7_faceMany r1)) (q7_isLaid r1))))))
theorem myX7_isFace : MYv yX7_isFace cX7_isFace 2 (some .boolean) 1 := ⟨mw_6_176, ms_67, mw_6_177, mw_1_9, ⟨by decide +kernel, by decide +kernel⟩, by decide +kernel⟩
set_option maxRecDepth 100000 in
set_option maxHeartbeats 4000000 in
theorem kX7_isFace (l : Launch) (Z : GZ) (a0 a0_buffer a0_now a0_made a0_history a0_saved a0_closed a0_faces a0_rankOf a0_placeOf a0_counted a0_steps a0_onto a0_goes a0_firstImage : Nat) (o0 : OX7) (p1 : Int32) (res : Int32 × OX7) (h : fX7_isFace o0 p1 = some res) : MI l Z yX7_isFace cX7_isFace 2 .boolean 4 89 [.ref a0, .int p1] [(a0, .inr (7, [.int (q7_thrown o0), .ref a0_buffer, .int (q7_length o0), .int (q7_at o0), .int (q7_from o0), .int (q7_kind o0), .int (q7_number o0), .int (q7_wrong o0), .ref a0_now, .ref a0_made, .ref a0_history, .ref a0_saved, .int (q7_entries o0), .int (q7_isSaved o0), .ref a0_closed, .ref a0_faces, .ref a0_rankOf, .ref a0_placeOf, .int (q7_faceMany o0), .int (q7_isLaid o0), .ref a0_counted, .ref a0_steps, .ref a0_onto, .ref a0_goes, .int (q7_found o0), .int (q7_images o0), .ref a0_firstImage, .int (q7_gathered o0)])), (a0_now, .inl (zI Z, 12, .inl (q7_now o0))), (a0_closed, .inl (zI Z, 256, .inl (q7_closed o0))), (a0_faces, .inl (zI Z, 256, .inl (q7_faces o0))), (a0_rankOf, .inl (zI Z, 256, .inl (q7_rankOf o0))), (a0_placeOf, .inl (zI Z, 256, .inl (q7_placeOf o0)))] res.1 [(a0, .inr (7, [.int (q7_thrown o0), .ref a0_buffer, .int (q7_length o0), .int (q7_at o0), .int (q7_from o0), .int (q7_kind o0), .int (q7_number o0), .int (q7_wrong o0), .ref a0_now, .ref a0_made, .ref a0_history, .ref a0_saved, .int (q7_entries o0), .int (q7_isSaved o0), .ref a0_closed, .ref a0_faces, .ref a0_rankOf, .ref a0_placeOf, .int (q7_faceMany res.2), .int (q7_isLaid res.2), .ref a0_counted, .ref a0_steps, .ref a0_onto, .ref a0_goes, .int (q7_found o0), .int (q7_images o0), .ref a0_firstImage, .int (q7_gathered o0)])), (a0_now, .inl (zI Z, 12, .inl (q7_now o0))), (a0_closed, .inl (zI Z, 256, .inl (q7_closed res.2))), (a0_faces, .inl (zI Z, 256, .inl (q7_faces res.2))), (a0_rankOf, .inl (zI Z, 256, .inl (q7_rankOf res.2))), (a0_placeOf, .inl (zI Z, 256, .inl (q7_placeOf res.2)))] := by
  refine MI_of (by decide +kernel) (Nat.le_of_ble_eq_true rfl) (fun {p e s m args below meth c} A R hR Q hQ C hr hlk => ?_)
  unfold fX7_isFace at h
  refine g_lv [0, 1] [(0, .ref a0), (1, .int p1)] rfl ?_
  refine g_aload_n C dX7_isFace_0 rfl 0 rfl ?_
  obtain ⟨r1, hr2, h⟩ := bd_of h
  refine g_callVv C (kX7_lay l Z a0 a0_buffer a0_now a0_made a0_history a0_saved a0_closed a0_faces a0_rankOf a0_placeOf a0_counted a0_steps a0_onto a0_goes a0_firstImage o0 r1 hr2) 0 rfl (ci := 7) rfl rfl myX7_lay 217 mw_6_120 rfl [0, 1, 2, 3, 4, 5] [] [0, 1, 2, 3, 4, 5] (wr := []) rfl rfl (by decide) (by decide) (by decide) [(a0, .inr (7, [.int (q7_thrown o0), .ref a0_buffer, .int (q7_length o0), .int (q7_at o0), .int (q7_from o0), .int (q7_kind o0), .int (q7_number o0), .int (q7_wrong o0), .ref a0_now, .ref a0_made, .ref a0_history, .ref a0_saved, .int (q7_entries o0), .int (q7_isSaved o0), .ref a0_closed, .ref a0_faces, .ref a0_rankOf, .ref a0_placeOf, .int (q7_faceMany r1), .int (q7_isLaid r1), .ref a0_counted, .ref a0_steps, .ref a0_onto, .ref a0_goes, .int (q7_found o0), .int (q7_images o0), .ref a0_firstImage, .int (q7_gathered o0)])), (a0_now, .inl (zI Z, 12, .inl (q7_now o0))), (a0_closed, .inl (zI Z, 256, .inl (q7_closed r1))), (a0_faces, .inl (zI Z, 256, .inl (q7_faces r1))), (a0_rankOf, .inl (zI Z, 256, .inl (q7_rankOf r1))), (a0_placeOf, .inl (zI Z, 256, .inl (q7_placeOf r1)))] rfl (by decide) (Nat.le_of_ble_eq_true rfl) (by rw [hR]; exact Nat.le_of_ble_eq_true rfl) (by rw [hR]; exact Nat.le_of_ble_eq_true rfl) ⟨by rw [hR]; exact Nat.le_of_ble_eq_true rfl, by rw [hR]; exact Nat.le_of_ble_eq_true rfl⟩ rfl dX7_isFace_1 ?_
  refine g_iload_n C dX7_isFace_4 rfl 1 rfl ?_
  refine g_iconst C 0 dX7_isFace_5 (by decide) ?_
  refine g_aload_n C dX7_isFace_6 rfl 0 rfl ?_
  refine g_get C 7 214 gin7 0 rfl rfl 18 (by decide) mw_5_103 rfl rfl dX7_isFace_7 ?_
  refine g_iconst C 1 dX7_isFace_10 (by decide) ?_
  refine g_isub C dX7_isFace_11 ?_
  obtain ⟨r3, hr4, h⟩ := bd_of h
  refine g_callSi C (kX7_in l Z p1 0 ((q7_faceMany r1) - 1) r3 hr4) myX7_in 67 mw_5_189 rfl [] [0, 1, 2, 3, 4, 5] [0, 1, 2, 3, 4, 5] (wr := [(a0, .inr (7, [.int (q7_thrown o0), .ref a0_buffer, .int (q7_length o0), .int (q7_at o0), .int (q7_from o0), .int (q7_kind o0), .int (q7_number o0), .int (q7_wrong o0), .ref a0_now, .ref a0_made, .ref a0_history, .ref a0_saved, .int (q7_entries o0), .int (q7_isSaved o0), .ref a0_closed, .ref a0_faces, .ref a0_rankOf, .ref a0_placeOf, .int (q7_faceMany r1), .int (q7_isLaid r1), .ref a0_counted, .ref a0_steps, .ref a0_onto, .ref a0_goes, .int (q7_found o0), .int (q7_images o0), .ref a0_firstImage, .int (q7_gathered o0)])), (a0_now, .inl (zI Z, 12, .inl (q7_now o0))), (a0_closed, .inl (zI Z, 256, .inl (q7_closed r1))), (a0_faces, .inl (zI Z, 256, .inl (q7_faces r1))), (a0_rankOf, .inl (zI Z, 256, .inl (q7_rankOf r1))), (a0_placeOf, .inl (zI Z, 256, .inl (q7_placeOf r1)))]) rfl rfl (by decide) (by decide) (by decide) [(a0, .inr (7, [.int (q7_thrown o0), .ref a0_buffer, .int (q7_length o0), .int (q7_at o0), .int (q7_from o0), .int (q7_kind o0), .int (q7_number o0), .int (q7_wrong o0), .ref a0_now, .ref a0_made, .ref a0_history, .ref a0_saved, .int (q7_entries o0), .int (q7_isSaved o0), .ref a0_closed, .ref a0_faces, .ref a0_rankOf, .ref a0_placeOf, .int (q7_faceMany r1), .int (q7_isLaid r1), .ref a0_counted, .ref a0_steps, .ref a0_onto, .ref a0_goes, .int (q7_found o0), .int (q7_images o0), .ref a0_firstImage, .int (q7_gathered o0)])), (a0_now, .inl (zI Z, 12, .inl (q7_now o0))), (a0_closed, .inl (zI Z, 256, .inl (q7_closed r1))), (a0_faces, .inl (zI Z, 256, .inl (q7_faces r1))), (a0_rankOf, .inl (zI Z, 256, .inl (q7_rankOf r1))), (a0_placeOf, .inl (zI Z, 256, .inl (q7_placeOf r1)))] rfl (by decide) (Nat.le_of_ble_eq_true rfl) (by rw [hR]; exact Nat.le_of_ble_eq_true rfl) (by rw [hR]; exact Nat.le_of_ble_eq_true rfl) ⟨by rw [hR]; exact Nat.le_of_ble_eq_true rfl, by rw [hR]; exact Nat.le_of_ble_eq_true rfl⟩ rfl dX7_isFace_12 ?_
  obtain ⟨hb, h⟩ := ck_of h
  obtain rfl := Option.some.inj h
  subst hQ
  exact g_zret C rfl (is01_of hb) hr hlk dX7_isFace_15 [0, 1, 2, 3, 4, 5] rfl (by decide)
def fX7_rankAt (o0 : OX7) (p1 : Int32) : Option (Int32) :=
  ck (okI p1 256) (ck (okI ((q7_faces o0) (ix p1)) 256) (some ((q7_rankOf o0) (ix ((q7_faces o0) (ix p1))))))
theorem myX7_rankAt : MYv yX7_rankAt cX7_rankAt 2 (some .int) 1 := ⟨mw_6_223, ms_68, mw_6_224, mw_1_9, ⟨by decide +kernel, by decide +kernel⟩, by decide +kernel⟩
set_option maxRecDepth 100000 in
set_option maxHeartbeats 4000000 in
theorem kX7_rankAt (l : Launch) (Z : GZ) (a0 a0_buffer a0_now a0_made a0_history a0_saved a0_closed a0_faces a0_rankOf a0_placeOf a0_counted a0_steps a0_onto a0_goes a0_firstImage : Nat) (o0 : OX7) (p1 : Int32) (res : Int32) (h : fX7_rankAt o0 p1 = some res) : MI l Z yX7_rankAt cX7_rankAt 2 .int 0 0 [.ref a0, .int p1] [(a0, .inr (7, [.int (q7_thrown o0), .ref a0_buffer, .int (q7_length o0), .int (q7_at o0), .int (q7_from o0), .int (q7_kind o0), .int (q7_number o0), .int (q7_wrong o0), .ref a0_now, .ref a0_made, .ref a0_history, .ref a0_saved, .int (q7_entries o0), .int (q7_isSaved o0), .ref a0_closed, .ref a0_faces, .ref a0_rankOf, .ref a0_placeOf, .int (q7_faceMany o0), .int (q7_isLaid o0), .ref a0_counted, .ref a0_steps, .ref a0_onto, .ref a0_goes, .int (q7_found o0), .int (q7_images o0), .ref a0_firstImage, .int (q7_gathered o0)])), (a0_faces, .inl (zI Z, 256, .inl (q7_faces o0))), (a0_rankOf, .inl (zI Z, 256, .inl (q7_rankOf o0)))] res [(a0, .inr (7, [.int (q7_thrown o0), .ref a0_buffer, .int (q7_length o0), .int (q7_at o0), .int (q7_from o0), .int (q7_kind o0), .int (q7_number o0), .int (q7_wrong o0), .ref a0_now, .ref a0_made, .ref a0_history, .ref a0_saved, .int (q7_entries o0), .int (q7_isSaved o0), .ref a0_closed, .ref a0_faces, .ref a0_rankOf, .ref a0_placeOf, .int (q7_faceMany o0), .int (q7_isLaid o0), .ref a0_counted, .ref a0_steps, .ref a0_onto, .ref a0_goes, .int (q7_found o0), .int (q7_images o0), .ref a0_firstImage, .int (q7_gathered o0)])), (a0_faces, .inl (zI Z, 256, .inl (q7_faces o0))), (a0_rankOf, .inl (zI Z, 256, .inl (q7_rankOf o0)))] := by
  refine MI_of (by decide +kernel) (Nat.le_of_ble_eq_true rfl) (fun {p e s m args below meth c} A R hR Q hQ C hr hlk => ?_)
  unfold fX7_rankAt at h
  refine g_lv [0, 1] [(0, .ref a0), (1, .int p1)] rfl ?_
  refine g_aload_n C dX7_rankAt_0 rfl 0 rfl ?_
  refine g_get C 7 31 gin7 0 rfl rfl 16 (by decide) mw_5_101 rfl rfl dX7_rankAt_1 ?_
  refine g_aload_n C dX7_rankAt_4 rfl 0 rfl ?_
  refine g_get C 7 28 gin7 0 rfl rfl 15 (by decide) mw_5_100 rfl rfl dX7_rankAt_5 ?_
  refine g_iload_n C dX7_rankAt_8 rfl 1 rfl ?_
  obtain ⟨hi1, h⟩ := ck_of h
  refine g_iald C 1 rfl hi1 dX7_rankAt_9 ?_
  obtain ⟨hi2, h⟩ := ck_of h
  refine g_iald C 2 rfl hi2 dX7_rankAt_10 ?_
  obtain rfl := Option.some.inj h
  subst hQ
  exact g_iret C rfl hr hlk dX7_rankAt_11 [0, 1, 2] rfl (by decide)
def fX7_isIn (o0 : OX7) (p1 : Int32) (p2 : Int32) : Option (Int32) :=
  ck (okI p2 256) (ck (okI p1 256) ((fX7_holds ((q7_faces o0) (ix p2)) ((q7_faces o0) (ix p1))).bind fun r3 =>
  (ck (is01 r3) (some r3))))
theorem myX7_isIn : MYv yX7_isIn cX7_isIn 3 (some .boolean) 2 := ⟨mw_7_27, ms_72, mw_7_28, mw_1_9, ⟨by decide +kernel, by decide +kernel⟩, by decide +kernel⟩
set_option maxRecDepth 100000 in
set_option maxHeartbeats 4000000 in
theorem kX7_isIn (l : Launch) (Z : GZ) (a0 a0_buffer a0_now a0_made a0_history a0_saved a0_closed a0_faces a0_rankOf a0_placeOf a0_counted a0_steps a0_onto a0_goes a0_firstImage : Nat) (o0 : OX7) (p1 : Int32) (p2 : Int32) (res : Int32) (h : fX7_isIn o0 p1 p2 = some res) : MI l Z yX7_isIn cX7_isIn 3 .boolean 1 21 [.ref a0, .int p1, .int p2] [(a0, .inr (7, [.int (q7_thrown o0), .ref a0_buffer, .int (q7_length o0), .int (q7_at o0), .int (q7_from o0), .int (q7_kind o0), .int (q7_number o0), .int (q7_wrong o0), .ref a0_now, .ref a0_made, .ref a0_history, .ref a0_saved, .int (q7_entries o0), .int (q7_isSaved o0), .ref a0_closed, .ref a0_faces, .ref a0_rankOf, .ref a0_placeOf, .int (q7_faceMany o0), .int (q7_isLaid o0), .ref a0_counted, .ref a0_steps, .ref a0_onto, .ref a0_goes, .int (q7_found o0), .int (q7_images o0), .ref a0_firstImage, .int (q7_gathered o0)])), (a0_faces, .inl (zI Z, 256, .inl (q7_faces o0)))] res [(a0, .inr (7, [.int (q7_thrown o0), .ref a0_buffer, .int (q7_length o0), .int (q7_at o0), .int (q7_from o0), .int (q7_kind o0), .int (q7_number o0), .int (q7_wrong o0), .ref a0_now, .ref a0_made, .ref a0_history, .ref a0_saved, .int (q7_entries o0), .int (q7_isSaved o0), .ref a0_closed, .ref a0_faces, .ref a0_rankOf, .ref a0_placeOf, .int (q7_faceMany o0), .int (q7_isLaid o0), .ref a0_counted, .ref a0_steps, .ref a0_onto, .ref a0_goes, .int (q7_found o0), .int (q7_images o0), .ref a0_firstImage, .int (q7_gathered o0)])), (a0_faces, .inl (zI Z, 256, .inl (q7_faces o0)))] := by
  refine MI_of (by decide +kernel) (Nat.le_of_ble_eq_true rfl) (fun {p e s m args below meth c} A R hR Q hQ C hr hlk => ?_)
  unfold fX7_isIn at h
  refine g_lv [0, 1, 2] [(0, .ref a0), (1, .int p1), (2, .int p2)] rfl ?_
  refine g_aload_n C dX7_isIn_0 rfl 0 rfl ?_
  refine g_get C 7 28 gin7 0 rfl rfl 15 (by decide) mw_5_100 rfl rfl dX7_isIn_1 ?_
  refine g_iload_n C dX7_isIn_4 rfl 2 rfl ?_
  obtain ⟨hi1, h⟩ := ck_of h
  refine g_iald C 1 rfl hi1 dX7_isIn_5 ?_
  refine g_aload_n C dX7_isIn_6 rfl 0 rfl ?_
  refine g_get C 7 28 gin7 0 rfl rfl 15 (by decide) mw_5_100 rfl rfl dX7_isIn_7 ?_
  refine g_iload_n C dX7_isIn_10 rfl 1 rfl ?_
  obtain ⟨hi2, h⟩ := ck_of h
  refine g_iald C 1 rfl hi2 dX7_isIn_11 ?_
  obtain ⟨r3, hr4, h⟩ := bd_of h
  refine g_callSi C (kX7_holds l Z ((q7_faces o0) (ix p2)) ((q7_faces o0) (ix p1)) r3 hr4) myX7_holds 199 mw_6_128 rfl [] [0, 1] [0, 1] (wr := [(a0, .inr (7, [.int (q7_thrown o0), .ref a0_buffer, .int (q7_length o0), .int (q7_at o0), .int (q7_from o0), .int (q7_kind o0), .int (q7_number o0), .int (q7_wrong o0), .ref a0_now, .ref a0_made, .ref a0_history, .ref a0_saved, .int (q7_entries o0), .int (q7_isSaved o0), .ref a0_closed, .ref a0_faces, .ref a0_rankOf, .ref a0_placeOf, .int (q7_faceMany o0), .int (q7_isLaid o0), .ref a0_counted, .ref a0_steps, .ref a0_onto, .ref a0_goes, .int (q7_found o0), .int (q7_images o0), .ref a0_firstImage, .int (q7_gathered o0)])), (a0_faces, .inl (zI Z, 256, .inl (q7_faces o0)))]) rfl rfl (by decide) (by decide) (by decide) [(a0, .inr (7, [.int (q7_thrown o0), .ref a0_buffer, .int (q7_length o0), .int (q7_at o0), .int (q7_from o0), .int (q7_kind o0), .int (q7_number o0), .int (q7_wrong o0), .ref a0_now, .ref a0_made, .ref a0_history, .ref a0_saved, .int (q7_entries o0), .int (q7_isSaved o0), .ref a0_closed, .ref a0_faces, .ref a0_rankOf, .ref a0_placeOf, .int (q7_faceMany o0), .int (q7_isLaid o0), .ref a0_counted, .ref a0_steps, .ref a0_onto, .ref a0_goes, .int (q7_found o0), .int (q7_images o0), .ref a0_firstImage, .int (q7_gathered o0)])), (a0_faces, .inl (zI Z, 256, .inl (q7_faces o0)))] rfl (by decide) (Nat.le_of_ble_eq_true rfl) (by rw [hR]; exact Nat.le_of_ble_eq_true rfl) (by rw [hR]; exact Nat.le_of_ble_eq_true rfl) ⟨by rw [hR]; exact Nat.le_of_ble_eq_true rfl, by rw [hR]; exact Nat.le_of_ble_eq_true rfl⟩ rfl dX7_isIn_12 ?_
  obtain ⟨hb, h⟩ := ck_of h
  obtain rfl := Option.some.inj h
  subst hQ
  exact g_zret C rfl (is01_of hb) hr hlk dX7_isIn_15 [0, 1] rfl (by decide)
def fX7_covers (o0 : OX7) (p1 : Int32) (p2 : Int32) : Option (Int32) :=
  ck (okI p1 256) (ck (okI p2 256) ((fX7_isCover o0 ((q7_faces o0) (ix p1)) ((q7_faces o0) (ix p2))).bind fun r3 =>
  (ck (is01 r3) (some r3))))
theorem myX7_covers : MYv yX7_covers cX7_covers 3 (some .boolean) 2 := ⟨mw_6_154, ms_65, mw_6_155, mw_1_9, ⟨by decide +kernel, by decide +kernel⟩, by decide +kernel⟩
set_option maxRecDepth 100000 in
set_option maxHeartbeats 4000000 in
theorem kX7_covers (l : Launch) (Z : GZ) (a0 a0_buffer a0_now a0_made a0_history a0_saved a0_closed a0_faces a0_rankOf a0_placeOf a0_counted a0_steps a0_onto a0_goes a0_firstImage : Nat) (o0 : OX7) (p1 : Int32) (p2 : Int32) (res : Int32) (h : fX7_covers o0 p1 p2 = some res) : MI l Z yX7_covers cX7_covers 3 .boolean 2 44 [.ref a0, .int p1, .int p2] [(a0, .inr (7, [.int (q7_thrown o0), .ref a0_buffer, .int (q7_length o0), .int (q7_at o0), .int (q7_from o0), .int (q7_kind o0), .int (q7_number o0), .int (q7_wrong o0), .ref a0_now, .ref a0_made, .ref a0_history, .ref a0_saved, .int (q7_entries o0), .int (q7_isSaved o0), .ref a0_closed, .ref a0_faces, .ref a0_rankOf, .ref a0_placeOf, .int (q7_faceMany o0), .int (q7_isLaid o0), .ref a0_counted, .ref a0_steps, .ref a0_onto, .ref a0_goes, .int (q7_found o0), .int (q7_images o0), .ref a0_firstImage, .int (q7_gathered o0)])), (a0_closed, .inl (zI Z, 256, .inl (q7_closed o0))), (a0_faces, .inl (zI Z, 256, .inl (q7_faces o0)))] res [(a0, .inr (7, [.int (q7_thrown o0), .ref a0_buffer, .int (q7_length o0), .int (q7_at o0), .int (q7_from o0), .int (q7_kind o0), .int (q7_number o0), .int (q7_wrong o0), .ref a0_now, .ref a0_made, .ref a0_history, .ref a0_saved, .int (q7_entries o0), .int (q7_isSaved o0), .ref a0_closed, .ref a0_faces, .ref a0_rankOf, .ref a0_placeOf, .int (q7_faceMany o0), .int (q7_isLaid o0), .ref a0_counted, .ref a0_steps, .ref a0_onto, .ref a0_goes, .int (q7_found o0), .int (q7_images o0), .ref a0_firstImage, .int (q7_gathered o0)])), (a0_closed, .inl (zI Z, 256, .inl (q7_closed o0))), (a0_faces, .inl (zI Z, 256, .inl (q7_faces o0)))] := by
  refine MI_of (by decide +kernel) (Nat.le_of_ble_eq_true rfl) (fun {p e s m args below meth c} A R hR Q hQ C hr hlk => ?_)
  unfold fX7_covers at h
  refine g_lv [0, 1, 2] [(0, .ref a0), (1, .int p1), (2, .int p2)] rfl ?_
  refine g_aload_n C dX7_covers_0 rfl 0 rfl ?_
  refine g_aload_n C dX7_covers_1 rfl 0 rfl ?_
  refine g_get C 7 28 gin7 0 rfl rfl 15 (by decide) mw_5_100 rfl rfl dX7_covers_2 ?_
  refine g_iload_n C dX7_covers_5 rfl 1 rfl ?_
  obtain ⟨hi1, h⟩ := ck_of h
  refine g_iald C 2 rfl hi1 dX7_covers_6 ?_
  refine g_aload_n C dX7_covers_7 rfl 0 rfl ?_
  refine g_get C 7 28 gin7 0 rfl rfl 15 (by decide) mw_5_100 rfl rfl dX7_covers_8 ?_
  refine g_iload_n C dX7_covers_11 rfl 2 rfl ?_
  obtain ⟨hi2, h⟩ := ck_of h
  refine g_iald C 2 rfl hi2 dX7_covers_12 ?_
  obtain ⟨r3, hr4, h⟩ := bd_of h
  refine g_callVi C (kX7_isCover l Z a0 a0_buffer a0_now a0_made a0_history a0_saved a0_closed a0_faces a0_rankOf a0_placeOf a0_counted a0_steps a0_onto a0_goes a0_firstImage o0 ((q7_faces o0) (ix p1)) ((q7_faces o0) (ix p2)) r3 hr4) 0 rfl (ci := 7) rfl rfl myX7_isCover 202 mw_6_135 rfl [0, 1] [2] [1, 2, 0] (wr := [(a0_faces, .inl (zI Z, 256, .inl (q7_faces o0)))]) rfl rfl (by decide) (by decide) (by decide) [(a0, .inr (7, [.int (q7_thrown o0), .ref a0_buffer, .int (q7_length o0), .int (q7_at o0), .int (q7_from o0), .int (q7_kind o0), .int (q7_number o0), .int (q7_wrong o0), .ref a0_now, .ref a0_made, .ref a0_history, .ref a0_saved, .int (q7_entries o0), .int (q7_isSaved o0), .ref a0_closed, .ref a0_faces, .ref a0_rankOf, .ref a0_placeOf, .int (q7_faceMany o0), .int (q7_isLaid o0), .ref a0_counted, .ref a0_steps, .ref a0_onto, .ref a0_goes, .int (q7_found o0), .int (q7_images o0), .ref a0_firstImage, .int (q7_gathered o0)])), (a0_closed, .inl (zI Z, 256, .inl (q7_closed o0))), (a0_faces, .inl (zI Z, 256, .inl (q7_faces o0)))] rfl (by decide) (Nat.le_of_ble_eq_true rfl) (by rw [hR]; exact Nat.le_of_ble_eq_true rfl) (by rw [hR]; exact Nat.le_of_ble_eq_true rfl) ⟨by rw [hR]; exact Nat.le_of_ble_eq_true rfl, by rw [hR]; exact Nat.le_of_ble_eq_true rfl⟩ rfl dX7_covers_13 ?_
  obtain ⟨hb, h⟩ := ck_of h
  obtain rfl := Option.some.inj h
  subst hQ
  exact g_zret C rfl (is01_of hb) hr hlk dX7_covers_16 [0, 1, 2] rfl (by decide)

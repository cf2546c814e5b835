def fX7_isWord_L39 (o0 : OX7) (w1 : Nat) (v4 : Int32 × Int32) : Option ((Int32 × Int32) ⊕ (Int32)) :=
  if v4.1 = 0 then (ex (ck (is01 v4.1) (some v4.1)))
  else (if (nI (sLen.getD w1 0)) ≤ v4.2 then (ex (ck (is01 v4.1) (some v4.1)))
  else (ck (okI ((q7_from o0) + v4.2) 300) (ck (okI v4.2 (sLen.getD w1 0)) (if ((q7_buffer o0) (ix ((q7_from o0) + v4.2))) = (sCh w1 (ix v4.2)) then (some (.inl (1, (v4.2 + 1))))
  else (some (.inl (0, (v4.2 + 1))))))))
def fX7_isWord_J36 (o0 : OX7) (w1 : Nat) (x3 : Int32) : Option (Int32) :=
  lp (fX7_isWord_L39 o0 w1) lpN (x3, 0)
def fX7_isWord_J35 (o0 : OX7) (w1 : Nat) : Option (Int32) :=
  fX7_isWord_J36 o0 w1 0
def fX7_isWord (o0 : OX7) (w1 : Nat) : Option (Int32) :=
  ck (okW w1) ((fX7_isGood o0).bind fun r1 =>
  (if r1 = 0 then (fX7_isWord_J35 o0 w1)
  else (if (q7_kind o0) = 1 then (if ((q7_at o0) - (q7_from o0)) = (nI (sLen.getD w1 0)) then (fX7_isWord_J36 o0 w1 1)
  else (fX7_isWord_J35 o0 w1))
  else (fX7_isWord_J35 o0 w1))))
theorem myX7_isWord : MYv yX7_isWord cX7_isWord 4 (some .boolean) 1 := ⟨mw_5_225, ms_38, mw_5_226, mw_1_9, ⟨by decide +kernel, by decide +kernel⟩, by decide +kernel⟩
set_option maxRecDepth 100000 in
set_option maxHeartbeats 4000000 in
theorem kX7_isWord (l : Launch) (hst : l.stackTraces = false) (Z : GZ) (Y : YZ) (a0 a0_buffer a0_now a0_made a0_history a0_saved a0_closed a0_faces a0_rankOf a0_placeOf a0_counted a0_steps a0_onto a0_goes a0_firstImage : Nat) (o0 : OX7) (w1 : Nat) (res : Int32) (h : fX7_isWord o0 w1 = some res) : XI l Z Y yX7_isWord cX7_isWord 4 .boolean 4 85 0 0 [.ref a0, .ref (Y.1 w1)] [(a0, .inr (7, [.int (q7_thrown o0), .ref a0_buffer, .int (q7_length o0), .int (q7_at o0), .int (q7_from o0), .int (q7_kind o0), .int (q7_number o0), .int (q7_wrong o0), .ref a0_now, .ref a0_made, .ref a0_history, .ref a0_saved, .int (q7_entries o0), .int (q7_isSaved o0), .ref a0_closed, .ref a0_faces, .ref a0_rankOf, .ref a0_placeOf, .int (q7_faceMany o0), .int (q7_isLaid o0), .ref a0_counted, .ref a0_steps, .ref a0_onto, .ref a0_goes, .int (q7_found o0), .int (q7_images o0), .ref a0_firstImage, .int (q7_gathered o0)])), (a0_buffer, .inl (zI Z, 300, .inl (q7_buffer o0)))] (.inr res) [(a0, .inr (7, [.int (q7_thrown o0), .ref a0_buffer, .int (q7_length o0), .int (q7_at o0), .int (q7_from o0), .int (q7_kind o0), .int (q7_number o0), .int (q7_wrong o0), .ref a0_now, .ref a0_made, .ref a0_history, .ref a0_saved, .int (q7_entries o0), .int (q7_isSaved o0), .ref a0_closed, .ref a0_faces, .ref a0_rankOf, .ref a0_placeOf, .int (q7_faceMany o0), .int (q7_isLaid o0), .ref a0_counted, .ref a0_steps, .ref a0_onto, .ref a0_goes, .int (q7_found o0), .int (q7_images o0), .ref a0_firstImage, .int (q7_gathered o0)])), (a0_buffer, .inl (zI Z, 300, .inl (q7_buffer o0)))] := by
  refine XI_of hst (by decide +kernel) (Nat.le_of_ble_eq_true rfl) (fun {p e s m args below meth c} A R hR Q hQ C D hr => ?_)
  unfold fX7_isWord at h
  refine g_lv [0, 1] [(0, .ref a0), (1, .ref (Y.1 w1))] rfl ?_
  obtain ⟨hw1, h⟩ := ck_of h
  replace hw1 := okW_lt hw1
  refine g_aload_n C dX7_isWord_0 rfl 0 rfl ?_
  obtain ⟨r1, hr2, h⟩ := bd_of h
  refine g_callVi C (kX7_isGood l Z a0 a0_buffer a0_now a0_made a0_history a0_saved a0_closed a0_faces a0_rankOf a0_placeOf a0_counted a0_steps a0_onto a0_goes a0_firstImage o0 r1 hr2) 0 rfl (ci := 7) rfl rfl myX7_isGood 104 mw_5_227 rfl [0] [1] [1, 0] (wr := [(a0_buffer, .inl (zI Z, 300, .inl (q7_buffer o0)))]) rfl rfl (by decide) (by decide) (by decide) [(a0, .inr (7, [.int (q7_thrown o0), .ref a0_buffer, .int (q7_length o0), .int (q7_at o0), .int (q7_from o0), .int (q7_kind o0), .int (q7_number o0), .int (q7_wrong o0), .ref a0_now, .ref a0_made, .ref a0_history, .ref a0_saved, .int (q7_entries o0), .int (q7_isSaved o0), .ref a0_closed, .ref a0_faces, .ref a0_rankOf, .ref a0_placeOf, .int (q7_faceMany o0), .int (q7_isLaid o0), .ref a0_counted, .ref a0_steps, .ref a0_onto, .ref a0_goes, .int (q7_found o0), .int (q7_images o0), .ref a0_firstImage, .int (q7_gathered o0)])), (a0_buffer, .inl (zI Z, 300, .inl (q7_buffer o0)))] rfl (by decide) (Nat.le_of_ble_eq_true rfl) (by rw [hR]; exact Nat.le_of_ble_eq_true rfl) (by rw [hR]; exact Nat.le_of_ble_eq_true rfl) ⟨by rw [hR]; exact Nat.le_of_ble_eq_true rfl, by rw [hR]; exact Nat.le_of_ble_eq_true rfl⟩ rfl dX7_isWord_1 ?_
  have hj36 : ∀ (x3 : Int32), fX7_isWord_J36 o0 w1 x3 = some res → Gw p l e R s m args below meth c 4 Z A Q 0 0 36 [(0, .ref a0), (1, .ref (Y.1 w1))] [.int x3] [(a0, .inr (7, [.int (q7_thrown o0), .ref a0_buffer, .int (q7_length o0), .int (q7_at o0), .int (q7_from o0), .int (q7_kind o0), .int (q7_number o0), .int (q7_wrong o0), .ref a0_now, .ref a0_made, .ref a0_history, .ref a0_saved, .int (q7_entries o0), .int (q7_isSaved o0), .ref a0_closed, .ref a0_faces, .ref a0_rankOf, .ref a0_placeOf, .int (q7_faceMany o0), .int (q7_isLaid o0), .ref a0_counted, .ref a0_steps, .ref a0_onto, .ref a0_goes, .int (q7_found o0), .int (q7_images o0), .ref a0_firstImage, .int (q7_gathered o0)])), (a0_buffer, .inl (zI Z, 300, .inl (q7_buffer o0)))] := by
    intro x3 h
    unfold fX7_isWord_J36 at h
    refine g_istore_n C dX7_isWord_36 rfl (by decide) [(2, .int x3), (0, .ref a0), (1, .ref (Y.1 w1))] rfl ?_
    refine g_iconst C 0 dX7_isWord_37 (by decide) ?_
    refine g_istore_n C dX7_isWord_38 rfl (by decide) [(3, .int 0), (2, .int x3), (0, .ref a0), (1, .ref (Y.1 w1))] rfl ?_
    refine g_lv [2, 3, 1, 0] [(0, .ref a0), (1, .ref (Y.1 w1)), (2, .int x3), (3, .int 0)] rfl ?_
    refine g_loop (lvf := fun v4 => [(0, .ref a0), (1, .ref (Y.1 w1)), (2, .int v4.1), (3, .int v4.2)]) (wsf := fun v4 => [(a0, .inr (7, [.int (q7_thrown o0), .ref a0_buffer, .int (q7_length o0), .int (q7_at o0), .int (q7_from o0), .int (q7_kind o0), .int (q7_number o0), .int (q7_wrong o0), .ref a0_now, .ref a0_made, .ref a0_history, .ref a0_saved, .int (q7_entries o0), .int (q7_isSaved o0), .ref a0_closed, .ref a0_faces, .ref a0_rankOf, .ref a0_placeOf, .int (q7_faceMany o0), .int (q7_isLaid o0), .ref a0_counted, .ref a0_steps, .ref a0_onto, .ref a0_goes, .int (q7_found o0), .int (q7_images o0), .ref a0_firstImage, .int (q7_gathered o0)])), (a0_buffer, .inl (zI Z, 300, .inl (q7_buffer o0)))]) h (fun v4 y1 h hk1 hx1 => ?_)
    refine g_eq (lv1 := [(0, .ref a0), (1, .ref (Y.1 w1)), (2, .int v4.1), (3, .int v4.2)]) (st1 := []) (ws1 := [(a0, .inr (7, [.int (q7_thrown o0), .ref a0_buffer, .int (q7_length o0), .int (q7_at o0), .int (q7_from o0), .int (q7_kind o0), .int (q7_number o0), .int (q7_wrong o0), .ref a0_now, .ref a0_made, .ref a0_history, .ref a0_saved, .int (q7_entries o0), .int (q7_isSaved o0), .ref a0_closed, .ref a0_faces, .ref a0_rankOf, .ref a0_placeOf, .int (q7_faceMany o0), .int (q7_isLaid o0), .ref a0_counted, .ref a0_steps, .ref a0_onto, .ref a0_goes, .int (q7_found o0), .int (q7_images o0), .ref a0_firstImage, .int (q7_gathered o0)])), (a0_buffer, .inl (zI Z, 300, .inl (q7_buffer o0)))]) rfl rfl rfl rfl ?_
    unfold fX7_isWord_L39 at h
    refine g_iload_n C dX7_isWord_39 rfl 2 rfl ?_
    refine g_if_eq C 82 dX7_isWord_40 (by decide) (fun c5 => ?_) (fun c5 => ?_)
    · replace h := it_t c5 h
      obtain ⟨r6, h, hy⟩ := ex_of h
      rw [hx1 r6 hy] at h
      refine g_iload_n C dX7_isWord_82 rfl 2 rfl ?_
      obtain ⟨hb, h⟩ := ck_of h
      obtain rfl := Option.some.inj h
      subst hQ
      exact gx_iret C D rfl (nar01 (is01_of hb)) hr (Nat.le_of_ble_eq_true rfl) (Nat.le_of_ble_eq_true rfl) dX7_isWord_83 [0, 1] rfl (by decide)
    · replace h := it_f c5 h
      refine g_iload_n C dX7_isWord_43 rfl 3 rfl ?_
      refine g_aload_n C dX7_isWord_44 rfl 1 rfl ?_
      refine gx_callVi C D (kJ0_length l hst Z Y w1 hw1) (g_recvS D hw1) myJ0_length_8abf5 108 mw_5_231 rfl [] [0, 1] [0, 1] (wr := [(a0, .inr (7, [.int (q7_thrown o0), .ref a0_buffer, .int (q7_length o0), .int (q7_at o0), .int (q7_from o0), .int (q7_kind o0), .int (q7_number o0), .int (q7_wrong o0), .ref a0_now, .ref a0_made, .ref a0_history, .ref a0_saved, .int (q7_entries o0), .int (q7_isSaved o0), .ref a0_closed, .ref a0_faces, .ref a0_rankOf, .ref a0_placeOf, .int (q7_faceMany o0), .int (q7_isLaid o0), .ref a0_counted, .ref a0_steps, .ref a0_onto, .ref a0_goes, .int (q7_found o0), .int (q7_images o0), .ref a0_firstImage, .int (q7_gathered o0)])), (a0_buffer, .inl (zI Z, 300, .inl (q7_buffer o0)))]) rfl rfl (by decide) (by decide) (by decide) [(a0, .inr (7, [.int (q7_thrown o0), .ref a0_buffer, .int (q7_length o0), .int (q7_at o0), .int (q7_from o0), .int (q7_kind o0), .int (q7_number o0), .int (q7_wrong o0), .ref a0_now, .ref a0_made, .ref a0_history, .ref a0_saved, .int (q7_entries o0), .int (q7_isSaved o0), .ref a0_closed, .ref a0_faces, .ref a0_rankOf, .ref a0_placeOf, .int (q7_faceMany o0), .int (q7_isLaid o0), .ref a0_counted, .ref a0_steps, .ref a0_onto, .ref a0_goes, .int (q7_found o0), .int (q7_images o0), .ref a0_firstImage, .int (q7_gathered o0)])), (a0_buffer, .inl (zI Z, 300, .inl (q7_buffer o0)))] rfl (by decide) (Nat.le_of_ble_eq_true rfl) (by rw [hR]; exact Nat.le_of_ble_eq_true rfl) (by rw [hR]; exact Nat.le_of_ble_eq_true rfl) ⟨by rw [hR]; exact Nat.le_of_ble_eq_true rfl, by rw [hR]; exact Nat.le_of_ble_eq_true rfl⟩ rfl dX7_isWord_45 ?_
      refine g_icmp_ge C 82 dX7_isWord_48 (by decide) (fun c7 => ?_) (fun c7 => ?_)
      · replace h := it_t c7 h
        obtain ⟨r8, h, hy⟩ := ex_of h
        rw [hx1 r8 hy] at h
        refine g_iload_n C dX7_isWord_82 rfl 2 rfl ?_
        obtain ⟨hb, h⟩ := ck_of h
        obtain rfl := Option.some.inj h
        subst hQ
        exact gx_iret C D rfl (nar01 (is01_of hb)) hr (Nat.le_of_ble_eq_true rfl) (Nat.le_of_ble_eq_true rfl) dX7_isWord_83 [0, 1] rfl (by decide)
      · replace h := it_f c7 h
        refine g_aload_n C dX7_isWord_51 rfl 0 rfl ?_
        refine g_get C 7 9 gin7 0 rfl rfl 1 (by decide) mw_5_86 rfl rfl dX7_isWord_52 ?_
        refine g_aload_n C dX7_isWord_55 rfl 0 rfl ?_
        refine g_get C 7 78 gin7 0 rfl rfl 4 (by decide) mw_5_89 rfl rfl dX7_isWord_56 ?_
        refine g_iload_n C dX7_isWord_59 rfl 3 rfl ?_
        refine g_iadd C dX7_isWord_60 ?_
        obtain ⟨hi9, h⟩ := ck_of h
        refine g_iald C 1 rfl hi9 dX7_isWord_61 ?_
        refine g_aload_n C dX7_isWord_62 rfl 1 rfl ?_
        refine g_iload_n C dX7_isWord_63 rfl 3 rfl ?_
        obtain ⟨hi10, h⟩ := ck_of h
        refine gx_callVi C D (kJ0_charAt l hst Z Y w1 hw1 v4.2 hi10) (g_recvS D hw1) myJ0_charAt_5068e 113 mw_5_232 rfl [] [0, 1] [0, 1] (wr := [(a0, .inr (7, [.int (q7_thrown o0), .ref a0_buffer, .int (q7_length o0), .int (q7_at o0), .int (q7_from o0), .int (q7_kind o0), .int (q7_number o0), .int (q7_wrong o0), .ref a0_now, .ref a0_made, .ref a0_history, .ref a0_saved, .int (q7_entries o0), .int (q7_isSaved o0), .ref a0_closed, .ref a0_faces, .ref a0_rankOf, .ref a0_placeOf, .int (q7_faceMany o0), .int (q7_isLaid o0), .ref a0_counted, .ref a0_steps, .ref a0_onto, .ref a0_goes, .int (q7_found o0), .int (q7_images o0), .ref a0_firstImage, .int (q7_gathered o0)])), (a0_buffer, .inl (zI Z, 300, .inl (q7_buffer o0)))]) rfl rfl (by decide) (by decide) (by decide) [(a0, .inr (7, [.int (q7_thrown o0), .ref a0_buffer, .int (q7_length o0), .int (q7_at o0), .int (q7_from o0), .int (q7_kind o0), .int (q7_number o0), .int (q7_wrong o0), .ref a0_now, .ref a0_made, .ref a0_history, .ref a0_saved, .int (q7_entries o0), .int (q7_isSaved o0), .ref a0_closed, .ref a0_faces, .ref a0_rankOf, .ref a0_placeOf, .int (q7_faceMany o0), .int (q7_isLaid o0), .ref a0_counted, .ref a0_steps, .ref a0_onto, .ref a0_goes, .int (q7_found o0), .int (q7_images o0), .ref a0_firstImage, .int (q7_gathered o0)])), (a0_buffer, .inl (zI Z, 300, .inl (q7_buffer o0)))] rfl (by decide) (Nat.le_of_ble_eq_true rfl) (by rw [hR]; exact Nat.le_of_ble_eq_true rfl) (by rw [hR]; exact Nat.le_of_ble_eq_true rfl) ⟨by rw [hR]; exact Nat.le_of_ble_eq_true rfl, by rw [hR]; exact Nat.le_of_ble_eq_true rfl⟩ rfl dX7_isWord_64 ?_
        refine g_icmp_ne C 74 dX7_isWord_67 (by decide) (fun c11 => ?_) (fun c11 => ?_)
        · replace h := it_f c11 h
          refine g_iconst C 0 dX7_isWord_74 (by decide) ?_
          refine g_istore_n C dX7_isWord_75 rfl (by decide) [(2, .int 0), (0, .ref a0), (1, .ref (Y.1 w1)), (3, .int v4.2)] rfl ?_
          refine g_iinc C (v4.2 + 1) dX7_isWord_76 3 rfl rfl (by decide) [(3, .int (v4.2 + 1)), (2, .int 0), (0, .ref a0), (1, .ref (Y.1 w1))] rfl ?_
          refine g_goto C 39 dX7_isWord_79 (by decide) ?_
          refine g_lv [2, 3, 1, 0] [(0, .ref a0), (1, .ref (Y.1 w1)), (2, .int 0), (3, .int (v4.2 + 1))] rfl ?_
          exact hk1 (0, (v4.2 + 1)) (Option.some.inj h).symm
        · replace h := it_t c11 h
          refine g_iconst C 1 dX7_isWord_70 (by decide) ?_
          refine g_goto C 75 dX7_isWord_71 (by decide) ?_
          refine g_istore_n C dX7_isWord_75 rfl (by decide) [(2, .int 1), (0, .ref a0), (1, .ref (Y.1 w1)), (3, .int v4.2)] rfl ?_
          refine g_iinc C (v4.2 + 1) dX7_isWord_76 3 rfl rfl (by decide) [(3, .int (v4.2 + 1)), (2, .int 1), (0, .ref a0), (1, .ref (Y.1 w1))] rfl ?_
          refine g_goto C 39 dX7_isWord_79 (by decide) ?_
          refine g_lv [2, 3, 1, 0] [(0, .ref a0), (1, .ref (Y.1 w1)), (2, .int 1), (3, .int (v4.2 + 1))] rfl ?_
          exact hk1 (1, (v4.2 + 1)) (Option.some.inj h).symm
  have hj35 : fX7_isWord_J35 o0 w1 = some res → Gw p l e R s m args below meth c 4 Z A Q 0 0 35 [(0, .ref a0), (1, .ref (Y.1 w1))] [] [(a0, .inr (7, [.int (q7_thrown o0), .ref a0_buffer, .int (q7_length o0), .int (q7_at o0), .int (q7_from o0), .int (q7_kind o0), .int (q7_number o0), .int (q7_wrong o0), .ref a0_now, .ref a0_made, .ref a0_history, .ref a0_saved, .int (q7_entries o0), .int (q7_isSaved o0), .ref a0_closed, .ref a0_faces, .ref a0_rankOf, .ref a0_placeOf, .int (q7_faceMany o0), .int (q7_isLaid o0), .ref a0_counted, .ref a0_steps, .ref a0_onto, .ref a0_goes, .int (q7_found o0), .int (q7_images o0), .ref a0_firstImage, .int (q7_gathered o0)])), (a0_buffer, .inl (zI Z, 300, .inl (q7_buffer o0)))] := by
    intro h
    unfold fX7_isWord_J35 at h
    refine g_iconst C 0 dX7_isWord_35 (by decide) ?_
    exact hj36 0 h
  refine g_if_eq C 35 dX7_isWord_4 (by decide) (fun c12 => ?_) (fun c12 => ?_)
  · replace h := it_t c12 h
    exact hj35 h
  · replace h := it_f c12 h
    refine g_aload_n C dX7_isWord_7 rfl 0 rfl ?_
    refine g_get C 7 88 gin7 0 rfl rfl 5 (by decide) mw_5_90 rfl rfl dX7_isWord_8 ?_
    refine g_iconst C 1 dX7_isWord_11 (by decide) ?_
    refine g_icmp_ne C 35 dX7_isWord_12 (by decide) (fun c13 => ?_) (fun c13 => ?_)
    · replace h := it_f c13 h
      exact hj35 h
    · replace h := it_t c13 h
      refine g_aload_n C dX7_isWord_15 rfl 0 rfl ?_
      refine g_get C 7 71 gin7 0 rfl rfl 3 (by decide) mw_5_88 rfl rfl dX7_isWord_16 ?_
      refine g_aload_n C dX7_isWord_19 rfl 0 rfl ?_
      refine g_get C 7 78 gin7 0 rfl rfl 4 (by decide) mw_5_89 rfl rfl dX7_isWord_20 ?_
      refine g_isub C dX7_isWord_23 ?_
      refine g_aload_n C dX7_isWord_24 rfl 1 rfl ?_
      refine gx_callVi C D (kJ0_length l hst Z Y w1 hw1) (g_recvS D hw1) myJ0_length_8abf5 108 mw_5_231 rfl [] [0, 1] [0, 1] (wr := [(a0, .inr (7, [.int (q7_thrown o0), .ref a0_buffer, .int (q7_length o0), .int (q7_at o0), .int (q7_from o0), .int (q7_kind o0), .int (q7_number o0), .int (q7_wrong o0), .ref a0_now, .ref a0_made, .ref a0_history, .ref a0_saved, .int (q7_entries o0), .int (q7_isSaved o0), .ref a0_closed, .ref a0_faces, .ref a0_rankOf, .ref a0_placeOf, .int (q7_faceMany o0), .int (q7_isLaid o0), .ref a0_counted, .ref a0_steps, .ref a0_onto, .ref a0_goes, .int (q7_found o0), .int (q7_images o0), .ref a0_firstImage, .int (q7_gathered o0)])), (a0_buffer, .inl (zI Z, 300, .inl (q7_buffer o0)))]) rfl rfl (by decide) (by decide) (by decide) [(a0, .inr (7, [.int (q7_thrown o0), .ref a0_buffer, .int (q7_length o0), .int (q7_at o0), .int (q7_from o0), .int (q7_kind o0), .int (q7_number o0), .int (q7_wrong o0), .ref a0_now, .ref a0_made, .ref a0_history, .ref a0_saved, .int (q7_entries o0), .int (q7_isSaved o0), .ref a0_closed, .ref a0_faces, .ref a0_rankOf, .ref a0_placeOf, .int (q7_faceMany o0), .int (q7_isLaid o0), .ref a0_counted, .ref a0_steps, .ref a0_onto, .ref a0_goes, .int (q7_found o0), .int (q7_images o0), .ref a0_firstImage, .int (q7_gathered o0)])), (a0_buffer, .inl (zI Z, 300, .inl (q7_buffer o0)))] rfl (by decide) (Nat.le_of_ble_eq_true rfl) (by rw [hR]; exact Nat.le_of_ble_eq_true rfl) (by rw [hR]; exact Nat.le_of_ble_eq_true rfl) ⟨by rw [hR]; exact Nat.le_of_ble_eq_true rfl, by rw [hR]; exact Nat.le_of_ble_eq_true rfl⟩ rfl dX7_isWord_25 ?_
      refine g_icmp_ne C 35 dX7_isWord_28 (by decide) (fun c14 => ?_) (fun c14 => ?_)
      · replace h := it_f c14 h
        exact hj35 h
      · replace h := it_t c14 h
        refine g_iconst C 1 dX7_isWord_31 (by decide) ?_
        refine g_goto C 36 dX7_isWord_32 (by decide) ?_
        exact hj36 1 h
def fX7_readFirst (o0 : OX7) : Option (OX7) :=
  (fX7_isWord o0 0).bind fun r1 =>
  (if r1 = 0 then ((fX7_isWord o0 1).bind fun r4 =>
  (if r4 = 0 then ((fX7_isWord o0 2).bind fun r7 =>
  (if r7 = 0 then ((fX7_isWord o0 3).bind fun r10 =>
  (if r10 = 0 then ((fX7_isWord o0 4).bind fun r13 =>
  (if r13 = 0 then ((fX7_fail o0).bind fun r16 =>
  (some (s7_wrong o0 (q7_wrong r16))))
  else ((fX7_takeSize o0 1 3).bind fun r18 =>
  ((fX7_makeCross (s7_wrong (s7_number (s7_kind (s7_from (s7_at o0 (q7_at r18.2)) (q7_from r18.2)) (q7_kind r18.2)) (q7_number r18.2)) (q7_wrong r18.2)) r18.1).bind fun r20 =>
  (some (s7_made (s7_wrong (s7_number (s7_kind (s7_from (s7_at o0 (q7_at r18.2)) (q7_from r18.2)) (q7_kind r18.2)) (q7_number r18.2)) (q7_wrong r18.2)) (q7_made r20)))))))
  else ((fX7_takeSize o0 1 3).bind fun r22 =>
  ((fX7_makeCube (s7_wrong (s7_number (s7_kind (s7_from (s7_at o0 (q7_at r22.2)) (q7_from r22.2)) (q7_kind r22.2)) (q7_number r22.2)) (q7_wrong r22.2)) r22.1).bind fun r24 =>
  (some (s7_made (s7_wrong (s7_number (s7_kind (s7_from (s7_at o0 (q7_at r22.2)) (q7_from r22.2)) (q7_kind r22.2)) (q7_number r22.2)) (q7_wrong r22.2)) (q7_made r24)))))))
  else ((fX7_takeSize o0 3 8).bind fun r26 =>
  ((fX7_makeCycle (s7_wrong (s7_number (s7_kind (s7_from (s7_at o0 (q7_at r26.2)) (q7_from r26.2)) (q7_kind r26.2)) (q7_number r26.2)) (q7_wrong r26.2)) r26.1).bind fun r28 =>
  (some (s7_made (s7_wrong (s7_number (s7_kind (s7_from (s7_at o0 (q7_at r26.2)) (q7_from r26.2)) (q7_kind r26.2)) (q7_number r26.2)) (q7_wrong r26.2)) (q7_made r28)))))))
  else ((fX7_takeSize o0 2 8).bind fun r30 =>
  ((fX7_makeSimplex (s7_wrong (s7_number (s7_kind (s7_from (s7_at o0 (q7_at r30.2)) (q7_from r30.2)) (q7_kind r30.2)) (q7_number r30.2)) (q7_wrong r30.2)) r30.1).bind fun r32 =>
  (some (s7_made (s7_wrong (s7_number (s7_kind (s7_from (s7_at o0 (q7_at r30.2)) (q7_from r30.2)) (q7_kind r30.2)) (q7_number r30.2)) (q7_wrong r30.2)) (q7_made r32)))))))
  else ((fX7_takeSize o0 1 8).bind fun r34 =>
  ((fX7_begin (s7_wrong (s7_number (s7_kind (s7_from (s7_at o0 (q7_at r34.2)) (q7_from r34.2)) (q7_kind r34.2)) (q7_number r34.2)) (q7_wrong r34.2)) r34.1).bind fun r36 =>
  (some (s7_made (s7_wrong (s7_number (s7_kind (s7_from (s7_at o0 (q7_at r34.2)) (q7_from r34.2)) (q7_kind r34.2)) (q7_number r34.2)) (q7_wrong r34.2)) (q7_made r36))))))
theorem myX7_readFirst : MYv yX7_readFirst cX7_readFirst 1 none 0 := ⟨mw_5_220, ms_37, mw_5_221, mw_1_9, ⟨by decide +kernel, by decide +kernel⟩, by decide +kernel⟩
set_option maxRecDepth 100000 in
set_option maxHeartbeats 4000000 in
theorem kX7_readFirst (l : Launch) (hst : l.stackTraces = false) (Z : GZ) (Y : YZ) (a0 a0_buffer a0_now a0_made a0_history a0_saved a0_closed a0_faces a0_rankOf a0_placeOf a0_counted a0_steps a0_onto a0_goes a0_firstImage : Nat) (o0 : OX7) (res : OX7) (h : fX7_readFirst o0 = some res) : XV l Z Y yX7_readFirst cX7_readFirst 1 5 108 0 0 [.ref a0] [(a0, .inr (7, [.int (q7_thrown o0), .ref a0_buffer, .int (q7_length o0), .int (q7_at o0), .int (q7_from o0), .int (q7_kind o0), .int (q7_number o0), .int (q7_wrong o0), .ref a0_now, .ref a0_made, .ref a0_history, .ref a0_saved, .int (q7_entries o0), .int (q7_isSaved o0), .ref a0_closed, .ref a0_faces, .ref a0_rankOf, .ref a0_placeOf, .int (q7_faceMany o0), .int (q7_isLaid o0), .ref a0_counted, .ref a0_steps, .ref a0_onto, .ref a0_goes, .int (q7_found o0), .int (q7_images o0), .ref a0_firstImage, .int (q7_gathered o0)])), (a0_buffer, .inl (zI Z, 300, .inl (q7_buffer o0))), (a0_made, .inl (zI Z, 12, .inl (q7_made o0)))] (.inr 0) [(a0, .inr (7, [.int (q7_thrown o0), .ref a0_buffer, .int (q7_length o0), .int (q7_at res), .int (q7_from res), .int (q7_kind res), .int (q7_number res), .int (q7_wrong res), .ref a0_now, .ref a0_made, .ref a0_history, .ref a0_saved, .int (q7_entries o0), .int (q7_isSaved o0), .ref a0_closed, .ref a0_faces, .ref a0_rankOf, .ref a0_placeOf, .int (q7_faceMany o0), .int (q7_isLaid o0), .ref a0_counted, .ref a0_steps, .ref a0_onto, .ref a0_goes, .int (q7_found o0), .int (q7_images o0), .ref a0_firstImage, .int (q7_gathered o0)])), (a0_buffer, .inl (zI Z, 300, .inl (q7_buffer o0))), (a0_made, .inl (zI Z, 12, .inl (q7_made res)))] := by
  refine XV_of hst (by decide +kernel) (Nat.le_of_ble_eq_true rfl) (fun {p e s m args below meth c} A R hR Q hQ C D hr => ?_)
  unfold fX7_readFirst at h
  refine g_lv [0] [(0, .ref a0)] rfl ?_
  refine g_aload_n C dX7_readFirst_0 rfl 0 rfl ?_
  refine gx_ldcs C 136 ((D.1.2.1 0 (by decide)).2) dX7_readFirst_1 ?_
  obtain ⟨r1, hr2, h⟩ := bd_of h
  refine gx_callVi C D (kX7_isWord l hst Z Y a0 a0_buffer a0_now a0_made a0_history a0_saved a0_closed a0_faces a0_rankOf a0_placeOf a0_counted a0_steps a0_onto a0_goes a0_firstImage o0 0 r1 hr2) (g_recv C 0 rfl (ci := 7) rfl rfl) myX7_isWord 138 mw_5_223 rfl [0, 1] [2] [1, 2, 0] (wr := [(a0_made, .inl (zI Z, 12, .inl (q7_made o0)))]) rfl rfl (by decide) (by decide) (by decide) [(a0, .inr (7, [.int (q7_thrown o0), .ref a0_buffer, .int (q7_length o0), .int (q7_at o0), .int (q7_from o0), .int (q7_kind o0), .int (q7_number o0), .int (q7_wrong o0), .ref a0_now, .ref a0_made, .ref a0_history, .ref a0_saved, .int (q7_entries o0), .int (q7_isSaved o0), .ref a0_closed, .ref a0_faces, .ref a0_rankOf, .ref a0_placeOf, .int (q7_faceMany o0), .int (q7_isLaid o0), .ref a0_counted, .ref a0_steps, .ref a0_onto, .ref a0_goes, .int (q7_found o0), .int (q7_images o0), .ref a0_firstImage, .int (q7_gathered o0)])), (a0_buffer, .inl (zI Z, 300, .inl (q7_buffer o0))), (a0_made, .inl (zI Z, 12, .inl (q7_made o0)))] rfl (by decide) (Nat.le_of_ble_eq_true rfl) (by rw [hR]; exact Nat.le_of_ble_eq_true rfl) (by rw [hR]; exact Nat.le_of_ble_eq_true rfl) ⟨by rw [hR]; exact Nat.le_of_ble_eq_true rfl, by rw [hR]; exact Nat.le_of_ble_eq_true rfl⟩ rfl dX7_readFirst_3 ?_
  refine g_if_eq C 23 dX7_readFirst_6 (by decide) (fun c3 => ?_) (fun c3 => ?_)
  · replace h := it_t c3 h
    refine g_aload_n C dX7_readFirst_23 rfl 0 rfl ?_
    refine gx_ldcs C 145 ((D.1.2.1 1 (by decide)).2) dX7_readFirst_24 ?_
    obtain ⟨r4, hr5, h⟩ := bd_of h
    refine gx_callVi C D (kX7_isWord l hst Z Y a0 a0_buffer a0_now a0_made a0_history a0_saved a0_closed a0_faces a0_rankOf a0_placeOf a0_counted a0_steps a0_onto a0_goes a0_firstImage o0 1 r4 hr5) (g_recv C 0 rfl (ci := 7) rfl rfl) myX7_isWord 138 mw_5_223 rfl [0, 1] [2] [1, 2, 0] (wr := [(a0_made, .inl (zI Z, 12, .inl (q7_made o0)))]) rfl rfl (by decide) (by decide) (by decide) [(a0, .inr (7, [.int (q7_thrown o0), .ref a0_buffer, .int (q7_length o0), .int (q7_at o0), .int (q7_from o0), .int (q7_kind o0), .int (q7_number o0), .int (q7_wrong o0), .ref a0_now, .ref a0_made, .ref a0_history, .ref a0_saved, .int (q7_entries o0), .int (q7_isSaved o0), .ref a0_closed, .ref a0_faces, .ref a0_rankOf, .ref a0_placeOf, .int (q7_faceMany o0), .int (q7_isLaid o0), .ref a0_counted, .ref a0_steps, .ref a0_onto, .ref a0_goes, .int (q7_found o0), .int (q7_images o0), .ref a0_firstImage, .int (q7_gathered o0)])), (a0_buffer, .inl (zI Z, 300, .inl (q7_buffer o0))), (a0_made, .inl (zI Z, 12, .inl (q7_made o0)))] rfl (by decide) (Nat.le_of_ble_eq_true rfl) (by rw [hR]; exact Nat.le_of_ble_eq_true rfl) (by rw [hR]; exact Nat.le_of_ble_eq_true rfl) ⟨by rw [hR]; exact Nat.le_of_ble_eq_true rfl, by rw [hR]; exact Nat.le_of_ble_eq_true rfl⟩ rfl dX7_readFirst_26 ?_
    refine g_if_eq C 46 dX7_readFirst_29 (by decide) (fun c6 => ?_) (fun c6 => ?_)
    · replace h := it_t c6 h
      refine g_aload_n C dX7_readFirst_46 rfl 0 rfl ?_
      refine gx_ldcs C 150 ((D.1.2.1 2 (by decide)).2) dX7_readFirst_47 ?_
      obtain ⟨r7, hr8, h⟩ := bd_of h
      refine gx_callVi C D (kX7_isWord l hst Z Y a0 a0_buffer a0_now a0_made a0_history a0_saved a0_closed a0_faces a0_rankOf a0_placeOf a0_counted a0_steps a0_onto a0_goes a0_firstImage o0 2 r7 hr8) (g_recv C 0 rfl (ci := 7) rfl rfl) myX7_isWord 138 mw_5_223 rfl [0, 1] [2] [1, 2, 0] (wr := [(a0_made, .inl (zI Z, 12, .inl (q7_made o0)))]) rfl rfl (by decide) (by decide) (by decide) [(a0, .inr (7, [.int (q7_thrown o0), .ref a0_buffer, .int (q7_length o0), .int (q7_at o0), .int (q7_from o0), .int (q7_kind o0), .int (q7_number o0), .int (q7_wrong o0), .ref a0_now, .ref a0_made, .ref a0_history, .ref a0_saved, .int (q7_entries o0), .int (q7_isSaved o0), .ref a0_closed, .ref a0_faces, .ref a0_rankOf, .ref a0_placeOf, .int (q7_faceMany o0), .int (q7_isLaid o0), .ref a0_counted, .ref a0_steps, .ref a0_onto, .ref a0_goes, .int (q7_found o0), .int (q7_images o0), .ref a0_firstImage, .int (q7_gathered o0)])), (a0_buffer, .inl (zI Z, 300, .inl (q7_buffer o0))), (a0_made, .inl (zI Z, 12, .inl (q7_made o0)))] rfl (by decide) (Nat.le_of_ble_eq_true rfl) (by rw [hR]; exact Nat.le_of_ble_eq_true rfl) (by rw [hR]; exact Nat.le_of_ble_eq_true rfl) ⟨by rw [hR]; exact Nat.le_of_ble_eq_true rfl, by rw [hR]; exact Nat.le_of_ble_eq_true rfl⟩ rfl dX7_readFirst_49 ?_
      refine g_if_eq C 69 dX7_readFirst_52 (by decide) (fun c9 => ?_) (fun c9 => ?_)
      · replace h := it_t c9 h
        refine g_aload_n C dX7_readFirst_69 rfl 0 rfl ?_
        refine gx_ldcs C 155 ((D.1.2.1 3 (by decide)).2) dX7_readFirst_70 ?_
        obtain ⟨r10, hr11, h⟩ := bd_of h
        refine gx_callVi C D (kX7_isWord l hst Z Y a0 a0_buffer a0_now a0_made a0_history a0_saved a0_closed a0_faces a0_rankOf a0_placeOf a0_counted a0_steps a0_onto a0_goes a0_firstImage o0 3 r10 hr11) (g_recv C 0 rfl (ci := 7) rfl rfl) myX7_isWord 138 mw_5_223 rfl [0, 1] [2] [1, 2, 0] (wr := [(a0_made, .inl (zI Z, 12, .inl (q7_made o0)))]) rfl rfl (by decide) (by decide) (by decide) [(a0, .inr (7, [.int (q7_thrown o0), .ref a0_buffer, .int (q7_length o0), .int (q7_at o0), .int (q7_from o0), .int (q7_kind o0), .int (q7_number o0), .int (q7_wrong o0), .ref a0_now, .ref a0_made, .ref a0_history, .ref a0_saved, .int (q7_entries o0), .int (q7_isSaved o0), .ref a0_closed, .ref a0_faces, .ref a0_rankOf, .ref a0_placeOf, .int (q7_faceMany o0), .int (q7_isLaid o0), .ref a0_counted, .ref a0_steps, .ref a0_onto, .ref a0_goes, .int (q7_found o0), .int (q7_images o0), .ref a0_firstImage, .int (q7_gathered o0)])), (a0_buffer, .inl (zI Z, 300, .inl (q7_buffer o0))), (a0_made, .inl (zI Z, 12, .inl (q7_made o0)))] rfl (by decide) (Nat.le_of_ble_eq_true rfl) (by rw [hR]; exact Nat.le_of_ble_eq_true rfl) (by rw [hR]; exact Nat.le_of_ble_eq_true rfl) ⟨by rw [hR]; exact Nat.le_of_ble_eq_true rfl, by rw [hR]; exact Nat.le_of_ble_eq_true rfl⟩ rfl dX7_readFirst_72 ?_
        refine g_if_eq C 91 dX7_readFirst_75 (by decide) (fun c12 => ?_) (fun c12 => ?_)
        · replace h := it_t c12 h
          refine g_aload_n C dX7_readFirst_91 rfl 0 rfl ?_
          refine gx_ldcs C 160 ((D.1.2.1 4 (by decide)).2) dX7_readFirst_92 ?_
          obtain ⟨r13, hr14, h⟩ := bd_of h
          refine gx_callVi C D (kX7_isWord l hst Z Y a0 a0_buffer a0_now a0_made a0_history a0_saved a0_closed a0_faces a0_rankOf a0_placeOf a0_counted a0_steps a0_onto a0_goes a0_firstImage o0 4 r13 hr14) (g_recv C 0 rfl (ci := 7) rfl rfl) myX7_isWord 138 mw_5_223 rfl [0, 1] [2] [1, 2, 0] (wr := [(a0_made, .inl (zI Z, 12, .inl (q7_made o0)))]) rfl rfl (by decide) (by decide) (by decide) [(a0, .inr (7, [.int (q7_thrown o0), .ref a0_buffer, .int (q7_length o0), .int (q7_at o0), .int (q7_from o0), .int (q7_kind o0), .int (q7_number o0), .int (q7_wrong o0), .ref a0_now, .ref a0_made, .ref a0_history, .ref a0_saved, .int (q7_entries o0), .int (q7_isSaved o0), .ref a0_closed, .ref a0_faces, .ref a0_rankOf, .ref a0_placeOf, .int (q7_faceMany o0), .int (q7_isLaid o0), .ref a0_counted, .ref a0_steps, .ref a0_onto, .ref a0_goes, .int (q7_found o0), .int (q7_images o0), .ref a0_firstImage, .int (q7_gathered o0)])), (a0_buffer, .inl (zI Z, 300, .inl (q7_buffer o0))), (a0_made, .inl (zI Z, 12, .inl (q7_made o0)))] rfl (by decide) (Nat.le_of_ble_eq_true rfl) (by rw [hR]; exact Nat.le_of_ble_eq_true rfl) (by rw [hR]; exact Nat.le_of_ble_eq_true rfl) ⟨by rw [hR]; exact Nat.le_of_ble_eq_true rfl, by rw [hR]; exact Nat.le_of_ble_eq_true rfl⟩ rfl dX7_readFirst_94 ?_
          refine g_if_eq C 113 dX7_readFirst_97 (by decide) (fun c15 => ?_) (fun c15 => ?_)
          · replace h := it_t c15 h
            refine g_aload_n C dX7_readFirst_113 rfl 0 rfl ?_
            obtain ⟨r16, hr17, h⟩ := bd_of h
            refine g_callVv C (kX7_fail l Z a0 a0_buffer a0_now a0_made a0_history a0_saved a0_closed a0_faces a0_rankOf a0_placeOf a0_counted a0_steps a0_onto a0_goes a0_firstImage o0 r16 hr17) 0 rfl (ci := 7) rfl rfl myX7_fail 117 mw_6_1 rfl [0] [1, 2] [2, 0, 1] (wr := [(a0_buffer, .inl (zI Z, 300, .inl (q7_buffer o0))), (a0_made, .inl (zI Z, 12, .inl (q7_made o0)))]) rfl rfl (by decide) (by decide) (by decide) [(a0, .inr (7, [.int (q7_thrown o0), .ref a0_buffer, .int (q7_length o0), .int (q7_at o0), .int (q7_from o0), .int (q7_kind o0), .int (q7_number o0), .int (q7_wrong r16), .ref a0_now, .ref a0_made, .ref a0_history, .ref a0_saved, .int (q7_entries o0), .int (q7_isSaved o0), .ref a0_closed, .ref a0_faces, .ref a0_rankOf, .ref a0_placeOf, .int (q7_faceMany o0), .int (q7_isLaid o0), .ref a0_counted, .ref a0_steps, .ref a0_onto, .ref a0_goes, .int (q7_found o0), .int (q7_images o0), .ref a0_firstImage, .int (q7_gathered o0)])), (a0_buffer, .inl (zI Z, 300, .inl (q7_buffer o0))), (a0_made, .inl (zI Z, 12, .inl (q7_made o0)))] rfl (by decide) (Nat.le_of_ble_eq_true rfl) (by rw [hR]; exact Nat.le_of_ble_eq_true rfl) (by rw [hR]; exact Nat.le_of_ble_eq_true rfl) ⟨by rw [hR]; exact Nat.le_of_ble_eq_true rfl, by rw [hR]; exact Nat.le_of_ble_eq_true rfl⟩ rfl dX7_readFirst_114 ?_
            obtain rfl := Option.some.inj h
            subst hQ
            exact gx_vret C D rfl hr (Nat.le_of_ble_eq_true rfl) (Nat.le_of_ble_eq_true rfl) dX7_readFirst_117 [0, 1, 2] rfl (by decide)
          · replace h := it_f c15 h
            refine g_aload_n C dX7_readFirst_100 rfl 0 rfl ?_
            refine g_aload_n C dX7_readFirst_101 rfl 0 rfl ?_
            refine g_iconst C 1 dX7_readFirst_102 (by decide) ?_
            refine g_iconst C 3 dX7_readFirst_103 (by decide) ?_
            obtain ⟨r18, hr19, h⟩ := bd_of h
            refine g_callVi C (kX7_takeSize l Z a0 a0_buffer a0_now a0_made a0_history a0_saved a0_closed a0_faces a0_rankOf a0_placeOf a0_counted a0_steps a0_onto a0_goes a0_firstImage o0 1 3 r18 hr19) 0 rfl (ci := 7) rfl rfl myX7_takeSize 142 mw_5_233 rfl [0, 1] [2] [1, 2, 0] (wr := [(a0_made, .inl (zI Z, 12, .inl (q7_made o0)))]) rfl rfl (by decide) (by decide) (by decide) [(a0, .inr (7, [.int (q7_thrown o0), .ref a0_buffer, .int (q7_length o0), .int (q7_at r18.2), .int (q7_from r18.2), .int (q7_kind r18.2), .int (q7_number r18.2), .int (q7_wrong r18.2), .ref a0_now, .ref a0_made, .ref a0_history, .ref a0_saved, .int (q7_entries o0), .int (q7_isSaved o0), .ref a0_closed, .ref a0_faces, .ref a0_rankOf, .ref a0_placeOf, .int (q7_faceMany o0), .int (q7_isLaid o0), .ref a0_counted, .ref a0_steps, .ref a0_onto, .ref a0_goes, .int (q7_found o0), .int (q7_images o0), .ref a0_firstImage, .int (q7_gathered o0)])), (a0_buffer, .inl (zI Z, 300, .inl (q7_buffer o0))), (a0_made, .inl (zI Z, 12, .inl (q7_made o0)))] rfl (by decide) (Nat.le_of_ble_eq_true rfl) (by rw [hR]; exact Nat.le_of_ble_eq_true rfl) (by rw [hR]; exact Nat.le_of_ble_eq_true rfl) ⟨by rw [hR]; exact Nat.le_of_ble_eq_true rfl, by rw [hR]; exact Nat.le_of_ble_eq_true rfl⟩ rfl dX7_readFirst_104 ?_
            obtain ⟨r20, hr21, h⟩ := bd_of h
            refine g_callVv C (kX7_makeCross l Z a0 a0_buffer a0_now a0_made a0_history a0_saved a0_closed a0_faces a0_rankOf a0_placeOf a0_counted a0_steps a0_onto a0_goes a0_firstImage (s7_wrong (s7_number (s7_kind (s7_from (s7_at o0 (q7_at r18.2)) (q7_from r18.2)) (q7_kind r18.2)) (q7_number r18.2)) (q7_wrong r18.2)) r18.1 r20 hr21) 0 rfl (ci := 7) rfl rfl myX7_makeCross 162 mw_6_32 rfl [0, 2] [1] [1, 0, 2] (wr := [(a0_buffer, .inl (zI Z, 300, .inl (q7_buffer o0)))]) rfl rfl (by decide) (by decide) (by decide) [(a0, .inr (7, [.int (q7_thrown o0), .ref a0_buffer, .int (q7_length o0), .int (q7_at r18.2), .int (q7_from r18.2), .int (q7_kind r18.2), .int (q7_number r18.2), .int (q7_wrong r18.2), .ref a0_now, .ref a0_made, .ref a0_history, .ref a0_saved, .int (q7_entries o0), .int (q7_isSaved o0), .ref a0_closed, .ref a0_faces, .ref a0_rankOf, .ref a0_placeOf, .int (q7_faceMany o0), .int (q7_isLaid o0), .ref a0_counted, .ref a0_steps, .ref a0_onto, .ref a0_goes, .int (q7_found o0), .int (q7_images o0), .ref a0_firstImage, .int (q7_gathered o0)])), (a0_buffer, .inl (zI Z, 300, .inl (q7_buffer o0))), (a0_made, .inl (zI Z, 12, .inl (q7_made r20)))] rfl (by decide) (Nat.le_of_ble_eq_true rfl) (by rw [hR]; exact Nat.le_of_ble_eq_true rfl) (by rw [hR]; exact Nat.le_of_ble_eq_true rfl) ⟨by rw [hR]; exact Nat.le_of_ble_eq_true rfl, by rw [hR]; exact Nat.le_of_ble_eq_true rfl⟩ rfl dX7_readFirst_107 ?_
            refine g_goto C 117 dX7_readFirst_110 (by decide) ?_
            obtain rfl := Option.some.inj h
            subst hQ
            exact gx_vret C D rfl hr (Nat.le_of_ble_eq_true rfl) (Nat.le_of_ble_eq_true rfl) dX7_readFirst_117 [0, 1, 2] rfl (by decide)
        · replace h := it_f c12 h
          refine g_aload_n C dX7_readFirst_78 rfl 0 rfl ?_
          refine g_aload_n C dX7_readFirst_79 rfl 0 rfl ?_
          refine g_iconst C 1 dX7_readFirst_80 (by decide) ?_
          refine g_iconst C 3 dX7_readFirst_81 (by decide) ?_
          obtain ⟨r22, hr23, h⟩ := bd_of h
          refine g_callVi C (kX7_takeSize l Z a0 a0_buffer a0_now a0_made a0_history a0_saved a0_closed a0_faces a0_rankOf a0_placeOf a0_counted a0_steps a0_onto a0_goes a0_firstImage o0 1 3 r22 hr23) 0 rfl (ci := 7) rfl rfl myX7_takeSize 142 mw_5_233 rfl [0, 1] [2] [1, 2, 0] (wr := [(a0_made, .inl (zI Z, 12, .inl (q7_made o0)))]) rfl rfl (by decide) (by decide) (by decide) [(a0, .inr (7, [.int (q7_thrown o0), .ref a0_buffer, .int (q7_length o0), .int (q7_at r22.2), .int (q7_from r22.2), .int (q7_kind r22.2), .int (q7_number r22.2), .int (q7_wrong r22.2), .ref a0_now, .ref a0_made, .ref a0_history, .ref a0_saved, .int (q7_entries o0), .int (q7_isSaved o0), .ref a0_closed, .ref a0_faces, .ref a0_rankOf, .ref a0_placeOf, .int (q7_faceMany o0), .int (q7_isLaid o0), .ref a0_counted, .ref a0_steps, .ref a0_onto, .ref a0_goes, .int (q7_found o0), .int (q7_images o0), .ref a0_firstImage, .int (q7_gathered o0)])), (a0_buffer, .inl (zI Z, 300, .inl (q7_buffer o0))), (a0_made, .inl (zI Z, 12, .inl (q7_made o0)))] rfl (by decide) (Nat.le_of_ble_eq_true rfl) (by rw [hR]; exact Nat.le_of_ble_eq_true rfl) (by rw [hR]; exact Nat.le_of_ble_eq_true rfl) ⟨by rw [hR]; exact Nat.le_of_ble_eq_true rfl, by rw [hR]; exact Nat.le_of_ble_eq_true rfl⟩ rfl dX7_readFirst_82 ?_
          obtain ⟨r24, hr25, h⟩ := bd_of h
          refine g_callVv C (kX7_makeCube l Z a0 a0_buffer a0_now a0_made a0_history a0_saved a0_closed a0_faces a0_rankOf a0_placeOf a0_counted a0_steps a0_onto a0_goes a0_firstImage (s7_wrong (s7_number (s7_kind (s7_from (s7_at o0 (q7_at r22.2)) (q7_from r22.2)) (q7_kind r22.2)) (q7_number r22.2)) (q7_wrong r22.2)) r22.1 r24 hr25) 0 rfl (ci := 7) rfl rfl myX7_makeCube 157 mw_6_27 rfl [0, 2] [1] [1, 0, 2] (wr := [(a0_buffer, .inl (zI Z, 300, .inl (q7_buffer o0)))]) rfl rfl (by decide) (by decide) (by decide) [(a0, .inr (7, [.int (q7_thrown o0), .ref a0_buffer, .int (q7_length o0), .int (q7_at r22.2), .int (q7_from r22.2), .int (q7_kind r22.2), .int (q7_number r22.2), .int (q7_wrong r22.2), .ref a0_now, .ref a0_made, .ref a0_history, .ref a0_saved, .int (q7_entries o0), .int (q7_isSaved o0), .ref a0_closed, .ref a0_faces, .ref a0_rankOf, .ref a0_placeOf, .int (q7_faceMany o0), .int (q7_isLaid o0), .ref a0_counted, .ref a0_steps, .ref a0_onto, .ref a0_goes, .int (q7_found o0), .int (q7_images o0), .ref a0_firstImage, .int (q7_gathered o0)])), (a0_buffer, .inl (zI Z, 300, .inl (q7_buffer o0))), (a0_made, .inl (zI Z, 12, .inl (q7_made r24)))] rfl (by decide) (Nat.le_of_ble_eq_true rfl) (by rw [hR]; exact Nat.le_of_ble_eq_true rfl) (by rw [hR]; exact Nat.le_of_ble_eq_true rfl) ⟨by rw [hR]; exact Nat.le_of_ble_eq_true rfl, by rw [hR]; exact Nat.le_of_ble_eq_true rfl⟩ rfl dX7_readFirst_85 ?_
          refine g_goto C 117 dX7_readFirst_88 (by decide) ?_
          obtain rfl := Option.some.inj h
          subst hQ
          exact gx_vret C D rfl hr (Nat.le_of_ble_eq_true rfl) (Nat.le_of_ble_eq_true rfl) dX7_readFirst_117 [0, 1, 2] rfl (by decide)
      · replace h := it_f c9 h
        refine g_aload_n C dX7_readFirst_55 rfl 0 rfl ?_
        refine g_aload_n C dX7_readFirst_56 rfl 0 rfl ?_
        refine g_iconst C 3 dX7_readFirst_57 (by decide) ?_
        refine g_bipush C 8 dX7_readFirst_58 (by decide) ?_
        obtain ⟨r26, hr27, h⟩ := bd_of h
        refine g_callVi C (kX7_takeSize l Z a0 a0_buffer a0_now a0_made a0_history a0_saved a0_closed a0_faces a0_rankOf a0_placeOf a0_counted a0_steps a0_onto a0_goes a0_firstImage o0 3 8 r26 hr27) 0 rfl (ci := 7) rfl rfl myX7_takeSize 142 mw_5_233 rfl [0, 1] [2] [1, 2, 0] (wr := [(a0_made, .inl (zI Z, 12, .inl (q7_made o0)))]) rfl rfl (by decide) (by decide) (by decide) [(a0, .inr (7, [.int (q7_thrown o0), .ref a0_buffer, .int (q7_length o0), .int (q7_at r26.2), .int (q7_from r26.2), .int (q7_kind r26.2), .int (q7_number r26.2), .int (q7_wrong r26.2), .ref a0_now, .ref a0_made, .ref a0_history, .ref a0_saved, .int (q7_entries o0), .int (q7_isSaved o0), .ref a0_closed, .ref a0_faces, .ref a0_rankOf, .ref a0_placeOf, .int (q7_faceMany o0), .int (q7_isLaid o0), .ref a0_counted, .ref a0_steps, .ref a0_onto, .ref a0_goes, .int (q7_found o0), .int (q7_images o0), .ref a0_firstImage, .int (q7_gathered o0)])), (a0_buffer, .inl (zI Z, 300, .inl (q7_buffer o0))), (a0_made, .inl (zI Z, 12, .inl (q7_made o0)))] rfl (by decide) (Nat.le_of_ble_eq_true rfl) (by rw [hR]; exact Nat.le_of_ble_eq_true rfl) (by rw [hR]; exact Nat.le_of_ble_eq_true rfl) ⟨by rw [hR]; exact Nat.le_of_ble_eq_true rfl, by rw [hR]; exact Nat.le_of_ble_eq_true rfl⟩ rfl dX7_readFirst_60 ?_
        obtain ⟨r28, hr29, h⟩ := bd_of h
        refine g_callVv C (kX7_makeCycle l Z a0 a0_buffer a0_now a0_made a0_history a0_saved a0_closed a0_faces a0_rankOf a0_placeOf a0_counted a0_steps a0_onto a0_goes a0_firstImage (s7_wrong (s7_number (s7_kind (s7_from (s7_at o0 (q7_at r26.2)) (q7_from r26.2)) (q7_kind r26.2)) (q7_number r26.2)) (q7_wrong r26.2)) r26.1 r28 hr29) 0 rfl (ci := 7) rfl rfl myX7_makeCycle 152 mw_6_22 rfl [0, 2] [1] [1, 0, 2] (wr := [(a0_buffer, .inl (zI Z, 300, .inl (q7_buffer o0)))]) rfl rfl (by decide) (by decide) (by decide) [(a0, .inr (7, [.int (q7_thrown o0), .ref a0_buffer, .int (q7_length o0), .int (q7_at r26.2), .int (q7_from r26.2), .int (q7_kind r26.2), .int (q7_number r26.2), .int (q7_wrong r26.2), .ref a0_now, .ref a0_made, .ref a0_history, .ref a0_saved, .int (q7_entries o0), .int (q7_isSaved o0), .ref a0_closed, .ref a0_faces, .ref a0_rankOf, .ref a0_placeOf, .int (q7_faceMany o0), .int (q7_isLaid o0), .ref a0_counted, .ref a0_steps, .ref a0_onto, .ref a0_goes, .int (q7_found o0), .int (q7_images o0), .ref a0_firstImage, .int (q7_gathered o0)])), (a0_buffer, .inl (zI Z, 300, .inl (q7_buffer o0))), (a0_made, .inl (zI Z, 12, .inl (q7_made r28)))] rfl (by decide) (Nat.le_of_ble_eq_true rfl) (by rw [hR]; exact Nat.le_of_ble_eq_true rfl) (by rw [hR]; exact Nat.le_of_ble_eq_true rfl) ⟨by rw [hR]; exact Nat.le_of_ble_eq_true rfl, by rw [hR]; exact Nat.le_of_ble_eq_true rfl⟩ rfl dX7_readFirst_63 ?_
        refine g_goto C 117 dX7_readFirst_66 (by decide) ?_
        obtain rfl := Option.some.inj h
        subst hQ
        exact gx_vret C D rfl hr (Nat.le_of_ble_eq_true rfl) (Nat.le_of_ble_eq_true rfl) dX7_readFirst_117 [0, 1, 2] rfl (by decide)
    · replace h := it_f c6 h
      refine g_aload_n C dX7_readFirst_32 rfl 0 rfl ?_
      refine g_aload_n C dX7_readFirst_33 rfl 0 rfl ?_
      refine g_iconst C 2 dX7_readFirst_34 (by decide) ?_
      refine g_bipush C 8 dX7_readFirst_35 (by decide) ?_
      obtain ⟨r30, hr31, h⟩ := bd_of h
      refine g_callVi C (kX7_takeSize l Z a0 a0_buffer a0_now a0_made a0_history a0_saved a0_closed a0_faces a0_rankOf a0_placeOf a0_counted a0_steps a0_onto a0_goes a0_firstImage o0 2 8 r30 hr31) 0 rfl (ci := 7) rfl rfl myX7_takeSize 142 mw_5_233 rfl [0, 1] [2] [1, 2, 0] (wr := [(a0_made, .inl (zI Z, 12, .inl (q7_made o0)))]) rfl rfl (by decide) (by decide) (by decide) [(a0, .inr (7, [.int (q7_thrown o0), .ref a0_buffer, .int (q7_length o0), .int (q7_at r30.2), .int (q7_from r30.2), .int (q7_kind r30.2), .int (q7_number r30.2), .int (q7_wrong r30.2), .ref a0_now, .ref a0_made, .ref a0_history, .ref a0_saved, .int (q7_entries o0), .int (q7_isSaved o0), .ref a0_closed, .ref a0_faces, .ref a0_rankOf, .ref a0_placeOf, .int (q7_faceMany o0), .int (q7_isLaid o0), .ref a0_counted, .ref a0_steps, .ref a0_onto, .ref a0_goes, .int (q7_found o0), .int (q7_images o0), .ref a0_firstImage, .int (q7_gathered o0)])), (a0_buffer, .inl (zI Z, 300, .inl (q7_buffer o0))), (a0_made, .inl (zI Z, 12, .inl (q7_made o0)))] rfl (by decide) (Nat.le_of_ble_eq_true rfl) (by rw [hR]; exact Nat.le_of_ble_eq_true rfl) (by rw [hR]; exact Nat.le_of_ble_eq_true rfl) ⟨by rw [hR]; exact Nat.le_of_ble_eq_true rfl, by rw [hR]; exact Nat.le_of_ble_eq_true rfl⟩ rfl dX7_readFirst_37 ?_
      obtain ⟨r32, hr33, h⟩ := bd_of h
      refine g_callVv C (kX7_makeSimplex l Z a0 a0_buffer a0_now a0_made a0_history a0_saved a0_closed a0_faces a0_rankOf a0_placeOf a0_counted a0_steps a0_onto a0_goes a0_firstImage (s7_wrong (s7_number (s7_kind (s7_from (s7_at o0 (q7_at r30.2)) (q7_from r30.2)) (q7_kind r30.2)) (q7_number r30.2)) (q7_wrong r30.2)) r30.1 r32 hr33) 0 rfl (ci := 7) rfl rfl myX7_makeSimplex 147 mw_6_10 rfl [0, 2] [1] [1, 0, 2] (wr := [(a0_buffer, .inl (zI Z, 300, .inl (q7_buffer o0)))]) rfl rfl (by decide) (by decide) (by decide) [(a0, .inr (7, [.int (q7_thrown o0), .ref a0_buffer, .int (q7_length o0), .int (q7_at r30.2), .int (q7_from r30.2), .int (q7_kind r30.2), .int (q7_number r30.2), .int (q7_wrong r30.2), .ref a0_now, .ref a0_made, .ref a0_history, .ref a0_saved, .int (q7_entries o0), .int (q7_isSaved o0), .ref a0_closed, .ref a0_faces, .ref a0_rankOf, .ref a0_placeOf, .int (q7_faceMany o0), .int (q7_isLaid o0), .ref a0_counted, .ref a0_steps, .ref a0_onto, .ref a0_goes, .int (q7_found o0), .int (q7_images o0), .ref a0_firstImage, .int (q7_gathered o0)])), (a0_buffer, .inl (zI Z, 300, .inl (q7_buffer o0))), (a0_made, .inl (zI Z, 12, .inl (q7_made r32)))] rfl (by decide) (Nat.le_of_ble_eq_true rfl) (by rw [hR]; exact Nat.le_of_ble_eq_true rfl) (by rw [hR]; exact Nat.le_of_ble_eq_true rfl) ⟨by rw [hR]; exact Nat.le_of_ble_eq_true rfl, by rw [hR]; exact Nat.le_of_ble_eq_true rfl⟩ rfl dX7_readFirst_40 ?_
      refine g_goto C 117 dX7_readFirst_43 (by decide) ?_
      obtain rfl := Option.some.inj h
      subst hQ
      exact gx_vret C D rfl hr (Nat.le_of_ble_eq_true rfl) (Nat.le_of_ble_eq_true rfl) dX7_readFirst_117 [0, 1, 2] rfl (by decide)
  · replace h := it_f c3 h
    refine g_aload_n C dX7_readFirst_9 rfl 0 rfl ?_
    refine g_aload_n C dX7_readFirst_10 rfl 0 rfl ?_
    refine g_iconst C 1 dX7_readFirst_11 (by decide) ?_
    refine g_bipush C 8 dX7_readFirst_12 (by decide) ?_
    obtain ⟨r34, hr35, h⟩ := bd_of h
    refine g_callVi C (kX7_takeSize l Z a0 a0_buffer a0_now a0_made a0_history a0_saved a0_closed a0_faces a0_rankOf a0_placeOf a0_counted a0_steps a0_onto a0_goes a0_firstImage o0 1 8 r34 hr35) 0 rfl (ci := 7) rfl rfl myX7_takeSize 142 mw_5_233 rfl [0, 1] [2] [1, 2, 0] (wr := [(a0_made, .inl (zI Z, 12, .inl (q7_made o0)))]) rfl rfl (by decide) (by decide) (by decide) [(a0, .inr (7, [.int (q7_thrown o0), .ref a0_buffer, .int (q7_length o0), .int (q7_at r34.2), .int (q7_from r34.2), .int (q7_kind r34.2), .int (q7_number r34.2), .int (q7_wrong r34.2), .ref a0_now, .ref a0_made, .ref a0_history, .ref a0_saved, .int (q7_entries o0), .int (q7_isSaved o0), .ref a0_closed, .ref a0_faces, .ref a0_rankOf, .ref a0_placeOf, .int (q7_faceMany o0), .int (q7_isLaid o0), .ref a0_counted, .ref a0_steps, .ref a0_onto, .ref a0_goes, .int (q7_found o0), .int (q7_images o0), .ref a0_firstImage, .int (q7_gathered o0)])), (a0_buffer, .inl (zI Z, 300, .inl (q7_buffer o0))), (a0_made, .inl (zI Z, 12, .inl (q7_made o0)))] rfl (by decide) (Nat.le_of_ble_eq_true rfl) (by rw [hR]; exact Nat.le_of_ble_eq_true rfl) (by rw [hR]; exact Nat.le_of_ble_eq_true rfl) ⟨by rw [hR]; exact Nat.le_of_ble_eq_true rfl, by rw [hR]; exact Nat.le_of_ble_eq_true rfl⟩ rfl dX7_readFirst_14 ?_
    obtain ⟨r36, hr37, h⟩ := bd_of h
    refine g_callVv C (kX7_begin l Z a0 a0_buffer a0_now a0_made a0_history a0_saved a0_closed a0_faces a0_rankOf a0_placeOf a0_counted a0_steps a0_onto a0_goes a0_firstImage (s7_wrong (s7_number (s7_kind (s7_from (s7_at o0 (q7_at r34.2)) (q7_from r34.2)) (q7_kind r34.2)) (q7_number r34.2)) (q7_wrong r34.2)) r34.1 r36 hr37) 0 rfl (ci := 7) rfl rfl myX7_begin 123 mw_6_5 rfl [0, 2] [1] [1, 0, 2] (wr := [(a0_buffer, .inl (zI Z, 300, .inl (q7_buffer o0)))]) rfl rfl (by decide) (by decide) (by decide) [(a0, .inr (7, [.int (q7_thrown o0), .ref a0_buffer, .int (q7_length o0), .int (q7_at r34.2), .int (q7_from r34.2), .int (q7_kind r34.2), .int (q7_number r34.2), .int (q7_wrong r34.2), .ref a0_now, .ref a0_made, .ref a0_history, .ref a0_saved, .int (q7_entries o0), .int (q7_isSaved o0), .ref a0_closed, .ref a0_faces, .ref a0_rankOf, .ref a0_placeOf, .int (q7_faceMany o0), .int (q7_isLaid o0), .ref a0_counted, .ref a0_steps, .ref a0_onto, .ref a0_goes, .int (q7_found o0), .int (q7_images o0), .ref a0_firstImage, .int (q7_gathered o0)])), (a0_buffer, .inl (zI Z, 300, .inl (q7_buffer o0))), (a0_made, .inl (zI Z, 12, .inl (q7_made r36)))] rfl (by decide) (Nat.le_of_ble_eq_true rfl) (by rw [hR]; exact Nat.le_of_ble_eq_true rfl) (by rw [hR]; exact Nat.le_of_ble_eq_true rfl) ⟨by rw [hR]; exact Nat.le_of_ble_eq_true rfl, by rw [hR]; exact Nat.le_of_ble_eq_true rfl⟩ rfl dX7_readFirst_17 ?_
    refine g_goto C 117 dX7_readFirst_20 (by decide) ?_
    obtain rfl := Option.some.inj h
    subst hQ
    exact gx_vret C D rfl hr (Nat.le_of_ble_eq_true rfl) (Nat.le_of_ble_eq_true rfl) dX7_readFirst_117 [0, 1, 2] rfl (by decide)
def fX7_readFacet_J20 (o0 : OX7) : Option (OX7) :=
  (fX7_fail o0).bind fun r3 =>
  (some (s7_wrong o0 (q7_wrong r3)))
def fX7_readFacet_J65 (o0 : OX7) (v11 : Int32 × Int32 × Int32 × Int32 × Int32 × Int32) : Option (OX7) :=
  (fX7_add (s7_wrong (s7_number (s7_kind (s7_from (s7_at o0 v11.2.1) v11.2.2.1) v11.2.2.2.1) v11.2.2.2.2.1) v11.2.2.2.2.2) v11.1).bind fun r14 =>
  (some (s7_made (s7_wrong (s7_number (s7_kind (s7_from (s7_at o0 v11.2.1) v11.2.2.1) v11.2.2.2.1) v11.2.2.2.2.1) v11.2.2.2.2.2) (q7_made r14)))
def fX7_readFacet_L37 (o0 : OX7) (v11 : Int32 × Int32 × Int32 × Int32 × Int32 × Int32) : Option ((Int32 × Int32 × Int32 × Int32 × Int32 × Int32) ⊕ (OX7)) :=
  (fX7_isGood (s7_wrong (s7_number (s7_kind (s7_from (s7_at o0 v11.2.1) v11.2.2.1) v11.2.2.2.1) v11.2.2.2.2.1) v11.2.2.2.2.2)).bind fun r12 =>
  (if r12 = 0 then (ex (fX7_readFacet_J65 o0 v11))
  else (if v11.2.2.2.1 = 2 then ((fX7_takePoint (s7_wrong (s7_number (s7_kind (s7_from (s7_at o0 v11.2.1) v11.2.2.1) v11.2.2.2.1) v11.2.2.2.2.1) v11.2.2.2.2.2) v11.1).bind fun r20 =>
  (some (.inl ((v11.1 ||| (jshl 1 r20.1)), (q7_at r20.2), (q7_from r20.2), (q7_kind r20.2), (q7_number r20.2), (q7_wrong r20.2)))))
  else (ex (fX7_readFacet_J65 o0 v11))))
def fX7_readFacet (o0 : OX7) : Option (OX7) :=
  (fX7_isWord o0 5).bind fun r1 =>
  (if r1 = 0 then (fX7_readFacet_J20 o0)
  else (if ((q7_made o0) (ix 1)) = 10 then (fX7_readFacet_J20 o0)
  else ((fX7_step o0).bind fun r7 =>
  ((fX7_takePoint (s7_number (s7_kind (s7_from (s7_at o0 (q7_at r7)) (q7_from r7)) (q7_kind r7)) (q7_number r7)) 0).bind fun r9 =>
  (lp (fX7_readFacet_L37 o0) lpN ((jshl 1 r9.1), (q7_at r9.2), (q7_from r9.2), (q7_kind r9.2), (q7_number r9.2), (q7_wrong r9.2)))))))
theorem myX7_readFacet : MYv yX7_readFacet cX7_readFacet 2 none 0 := ⟨mw_6_38, ms_49, mw_6_39, mw_1_9, ⟨by decide +kernel, by decide +kernel⟩, by decide +kernel⟩
set_option maxRecDepth 100000 in
set_option maxHeartbeats 4000000 in
theorem kX7_readFacet (l : Launch) (hst : l.stackTraces = false) (Z : GZ) (Y : YZ) (a0 a0_buffer a0_now a0_made a0_history a0_saved a0_closed a0_faces a0_rankOf a0_placeOf a0_counted a0_steps a0_onto a0_goes a0_firstImage : Nat) (o0 : OX7) (res : OX7) (h : fX7_readFacet o0 = some res) : XV l Z Y yX7_readFacet cX7_readFacet 2 5 108 0 0 [.ref a0] [(a0, .inr (7, [.int (q7_thrown o0), .ref a0_buffer, .int (q7_length o0), .int (q7_at o0), .int (q7_from o0), .int (q7_kind o0), .int (q7_number o0), .int (q7_wrong o0), .ref a0_now, .ref a0_made, .ref a0_history, .ref a0_saved, .int (q7_entries o0), .int (q7_isSaved o0), .ref a0_closed, .ref a0_faces, .ref a0_rankOf, .ref a0_placeOf, .int (q7_faceMany o0), .int (q7_isLaid o0), .ref a0_counted, .ref a0_steps, .ref a0_onto, .ref a0_goes, .int (q7_found o0), .int (q7_images o0), .ref a0_firstImage, .int (q7_gathered o0)])), (a0_buffer, .inl (zI Z, 300, .inl (q7_buffer o0))), (a0_made, .inl (zI Z, 12, .inl (q7_made o0)))] (.inr 0) [(a0, .inr (7, [.int (q7_thrown o0), .ref a0_buffer, .int (q7_length o0), .int (q7_at res), .int (q7_from res), .int (q7_kind res), .int (q7_number res), .int (q7_wrong res), .ref a0_now, .ref a0_made, .ref a0_history, .ref a0_saved, .int (q7_entries o0), .int (q7_isSaved o0), .ref a0_closed, .ref a0_faces, .ref a0_rankOf, .ref a0_placeOf, .int (q7_faceMany o0), .int (q7_isLaid o0), .ref a0_counted, .ref a0_steps, .ref a0_onto, .ref a0_goes, .int (q7_found o0), .int (q7_images o0), .ref a0_firstImage, .int (q7_gathered o0)])), (a0_buffer, .inl (zI Z, 300, .inl (q7_buffer o0))), (a0_made, .inl (zI Z, 12, .inl (q7_made res)))] := by
  refine XV_of hst (by decide +kernel) (Nat.le_of_ble_eq_true rfl) (fun {p e s m args below meth c} A R hR Q hQ C D hr => ?_)
  unfold fX7_readFacet at h
  refine g_lv [0] [(0, .ref a0)] rfl ?_
  refine g_aload_n C dX7_readFacet_0 rfl 0 rfl ?_
  refine gx_ldcs C 169 ((D.1.2.1 5 (by decide)).2) dX7_readFacet_1 ?_
  obtain ⟨r1, hr2, h⟩ := bd_of h
  refine gx_callVi C D (kX7_isWord l hst Z Y a0 a0_buffer a0_now a0_made a0_history a0_saved a0_closed a0_faces a0_rankOf a0_placeOf a0_counted a0_steps a0_onto a0_goes a0_firstImage o0 5 r1 hr2) (g_recv C 0 rfl (ci := 7) rfl rfl) myX7_isWord 138 mw_5_223 rfl [0, 1] [2] [1, 2, 0] (wr := [(a0_made, .inl (zI Z, 12, .inl (q7_made o0)))]) rfl rfl (by decide) (by decide) (by decide) [(a0, .inr (7, [.int (q7_thrown o0), .ref a0_buffer, .int (q7_length o0), .int (q7_at o0), .int (q7_from o0), .int (q7_kind o0), .int (q7_number o0), .int (q7_wrong o0), .ref a0_now, .ref a0_made, .ref a0_history, .ref a0_saved, .int (q7_entries o0), .int (q7_isSaved o0), .ref a0_closed, .ref a0_faces, .ref a0_rankOf, .ref a0_placeOf, .int (q7_faceMany o0), .int (q7_isLaid o0), .ref a0_counted, .ref a0_steps, .ref a0_onto, .ref a0_goes, .int (q7_found o0), .int (q7_images o0), .ref a0_firstImage, .int (q7_gathered o0)])), (a0_buffer, .inl (zI Z, 300, .inl (q7_buffer o0))), (a0_made, .inl (zI Z, 12, .inl (q7_made o0)))] rfl (by decide) (Nat.le_of_ble_eq_true rfl) (by rw [hR]; exact Nat.le_of_ble_eq_true rfl) (by rw [hR]; exact Nat.le_of_ble_eq_true rfl) ⟨by rw [hR]; exact Nat.le_of_ble_eq_true rfl, by rw [hR]; exact Nat.le_of_ble_eq_true rfl⟩ rfl dX7_readFacet_3 ?_
  have hj20 : fX7_readFacet_J20 o0 = some res → Gw p l e R s m args below meth c 2 Z A Q 0 0 20 [(0, .ref a0)] [] [(a0, .inr (7, [.int (q7_thrown o0), .ref a0_buffer, .int (q7_length o0), .int (q7_at o0), .int (q7_from o0), .int (q7_kind o0), .int (q7_number o0), .int (q7_wrong o0), .ref a0_now, .ref a0_made, .ref a0_history, .ref a0_saved, .int (q7_entries o0), .int (q7_isSaved o0), .ref a0_closed, .ref a0_faces, .ref a0_rankOf, .ref a0_placeOf, .int (q7_faceMany o0), .int (q7_isLaid o0), .ref a0_counted, .ref a0_steps, .ref a0_onto, .ref a0_goes, .int (q7_found o0), .int (q7_images o0), .ref a0_firstImage, .int (q7_gathered o0)])), (a0_buffer, .inl (zI Z, 300, .inl (q7_buffer o0))), (a0_made, .inl (zI Z, 12, .inl (q7_made o0)))] := by
    intro h
    unfold fX7_readFacet_J20 at h
    refine g_aload_n C dX7_readFacet_20 rfl 0 rfl ?_
    obtain ⟨r3, hr4, h⟩ := bd_of h
    refine g_callVv C (kX7_fail l Z a0 a0_buffer a0_now a0_made a0_history a0_saved a0_closed a0_faces a0_rankOf a0_placeOf a0_counted a0_steps a0_onto a0_goes a0_firstImage o0 r3 hr4) 0 rfl (ci := 7) rfl rfl myX7_fail 117 mw_6_1 rfl [0] [1, 2] [2, 0, 1] (wr := [(a0_buffer, .inl (zI Z, 300, .inl (q7_buffer o0))), (a0_made, .inl (zI Z, 12, .inl (q7_made o0)))]) rfl rfl (by decide) (by decide) (by decide) [(a0, .inr (7, [.int (q7_thrown o0), .ref a0_buffer, .int (q7_length o0), .int (q7_at o0), .int (q7_from o0), .int (q7_kind o0), .int (q7_number o0), .int (q7_wrong r3), .ref a0_now, .ref a0_made, .ref a0_history, .ref a0_saved, .int (q7_entries o0), .int (q7_isSaved o0), .ref a0_closed, .ref a0_faces, .ref a0_rankOf, .ref a0_placeOf, .int (q7_faceMany o0), .int (q7_isLaid o0), .ref a0_counted, .ref a0_steps, .ref a0_onto, .ref a0_goes, .int (q7_found o0), .int (q7_images o0), .ref a0_firstImage, .int (q7_gathered o0)])), (a0_buffer, .inl (zI Z, 300, .inl (q7_buffer o0))), (a0_made, .inl (zI Z, 12, .inl (q7_made o0)))] rfl (by decide) (Nat.le_of_ble_eq_true rfl) (by rw [hR]; exact Nat.le_of_ble_eq_true rfl) (by rw [hR]; exact Nat.le_of_ble_eq_true rfl) ⟨by rw [hR]; exact Nat.le_of_ble_eq_true rfl, by rw [hR]; exact Nat.le_of_ble_eq_true rfl⟩ rfl dX7_readFacet_21 ?_
    obtain rfl := Option.some.inj h
    subst hQ
    exact gx_vret C D rfl hr (Nat.le_of_ble_eq_true rfl) (Nat.le_of_ble_eq_true rfl) dX7_readFacet_24 [0, 1, 2] rfl (by decide)
  refine g_if_eq C 20 dX7_readFacet_6 (by decide) (fun c5 => ?_) (fun c5 => ?_)
  · replace h := it_t c5 h
    exact hj20 h
  · replace h := it_f c5 h
    refine g_aload_n C dX7_readFacet_9 rfl 0 rfl ?_
    refine g_get C 7 16 gin7 0 rfl rfl 9 (by decide) mw_5_94 rfl rfl dX7_readFacet_10 ?_
    refine g_iconst C 1 dX7_readFacet_13 (by decide) ?_
    refine g_iald C 2 rfl (by decide) dX7_readFacet_14 ?_
    refine g_bipush C 10 dX7_readFacet_15 (by decide) ?_
    refine g_icmp_ne C 25 dX7_readFacet_17 (by decide) (fun c6 => ?_) (fun c6 => ?_)
    · replace h := it_f c6 h
      refine g_aload_n C dX7_readFacet_25 rfl 0 rfl ?_
      obtain ⟨r7, hr8, h⟩ := bd_of h
      refine g_callVv C (kX7_step l Z a0 a0_buffer a0_now a0_made a0_history a0_saved a0_closed a0_faces a0_rankOf a0_placeOf a0_counted a0_steps a0_onto a0_goes a0_firstImage o0 r7 hr8) 0 rfl (ci := 7) rfl rfl myX7_step 120 mw_5_200 rfl [0, 1] [2] [1, 2, 0] (wr := [(a0_made, .inl (zI Z, 12, .inl (q7_made o0)))]) rfl rfl (by decide) (by decide) (by decide) [(a0, .inr (7, [.int (q7_thrown o0), .ref a0_buffer, .int (q7_length o0), .int (q7_at r7), .int (q7_from r7), .int (q7_kind r7), .int (q7_number r7), .int (q7_wrong o0), .ref a0_now, .ref a0_made, .ref a0_history, .ref a0_saved, .int (q7_entries o0), .int (q7_isSaved o0), .ref a0_closed, .ref a0_faces, .ref a0_rankOf, .ref a0_placeOf, .int (q7_faceMany o0), .int (q7_isLaid o0), .ref a0_counted, .ref a0_steps, .ref a0_onto, .ref a0_goes, .int (q7_found o0), .int (q7_images o0), .ref a0_firstImage, .int (q7_gathered o0)])), (a0_buffer, .inl (zI Z, 300, .inl (q7_buffer o0))), (a0_made, .inl (zI Z, 12, .inl (q7_made o0)))] rfl (by decide) (Nat.le_of_ble_eq_true rfl) (by rw [hR]; exact Nat.le_of_ble_eq_true rfl) (by rw [hR]; exact Nat.le_of_ble_eq_true rfl) ⟨by rw [hR]; exact Nat.le_of_ble_eq_true rfl, by rw [hR]; exact Nat.le_of_ble_eq_true rfl⟩ rfl dX7_readFacet_26 ?_
      refine g_iconst C 1 dX7_readFacet_29 (by decide) ?_
      refine g_aload_n C dX7_readFacet_30 rfl 0 rfl ?_
      refine g_iconst C 0 dX7_readFacet_31 (by decide) ?_
      obtain ⟨r9, hr10, h⟩ := bd_of h
      refine g_callVi C (kX7_takePoint l Z a0 a0_buffer a0_now a0_made a0_history a0_saved a0_closed a0_faces a0_rankOf a0_placeOf a0_counted a0_steps a0_onto a0_goes a0_firstImage (s7_number (s7_kind (s7_from (s7_at o0 (q7_at r7)) (q7_from r7)) (q7_kind r7)) (q7_number r7)) 0 r9 hr10) 0 rfl (ci := 7) rfl rfl myX7_takePoint 171 mw_6_41 rfl [0, 1, 2] [] [0, 1, 2] (wr := []) rfl rfl (by decide) (by decide) (by decide) [(a0, .inr (7, [.int (q7_thrown o0), .ref a0_buffer, .int (q7_length o0), .int (q7_at r9.2), .int (q7_from r9.2), .int (q7_kind r9.2), .int (q7_number r9.2), .int (q7_wrong r9.2), .ref a0_now, .ref a0_made, .ref a0_history, .ref a0_saved, .int (q7_entries o0), .int (q7_isSaved o0), .ref a0_closed, .ref a0_faces, .ref a0_rankOf, .ref a0_placeOf, .int (q7_faceMany o0), .int (q7_isLaid o0), .ref a0_counted, .ref a0_steps, .ref a0_onto, .ref a0_goes, .int (q7_found o0), .int (q7_images o0), .ref a0_firstImage, .int (q7_gathered o0)])), (a0_buffer, .inl (zI Z, 300, .inl (q7_buffer o0))), (a0_made, .inl (zI Z, 12, .inl (q7_made o0)))] rfl (by decide) (Nat.le_of_ble_eq_true rfl) (by rw [hR]; exact Nat.le_of_ble_eq_true rfl) (by rw [hR]; exact Nat.le_of_ble_eq_true rfl) ⟨by rw [hR]; exact Nat.le_of_ble_eq_true rfl, by rw [hR]; exact Nat.le_of_ble_eq_true rfl⟩ rfl dX7_readFacet_32 ?_
      refine g_ishl C dX7_readFacet_35 ?_
      refine g_istore_n C dX7_readFacet_36 rfl (by decide) [(1, .int (jshl 1 r9.1)), (0, .ref a0)] rfl ?_
      refine g_lv [1, 0] [(0, .ref a0), (1, .int (jshl 1 r9.1))] rfl ?_
      refine g_loop (lvf := fun v11 => [(0, .ref a0), (1, .int v11.1)]) (wsf := fun v11 => [(a0, .inr (7, [.int (q7_thrown o0), .ref a0_buffer, .int (q7_length o0), .int v11.2.1, .int v11.2.2.1, .int v11.2.2.2.1, .int v11.2.2.2.2.1, .int v11.2.2.2.2.2, .ref a0_now, .ref a0_made, .ref a0_history, .ref a0_saved, .int (q7_entries o0), .int (q7_isSaved o0), .ref a0_closed, .ref a0_faces, .ref a0_rankOf, .ref a0_placeOf, .int (q7_faceMany o0), .int (q7_isLaid o0), .ref a0_counted, .ref a0_steps, .ref a0_onto, .ref a0_goes, .int (q7_found o0), .int (q7_images o0), .ref a0_firstImage, .int (q7_gathered o0)])), (a0_buffer, .inl (zI Z, 300, .inl (q7_buffer o0))), (a0_made, .inl (zI Z, 12, .inl (q7_made o0)))]) h (fun v11 y1 h hk1 hx1 => ?_)
      refine g_eq (lv1 := [(0, .ref a0), (1, .int v11.1)]) (st1 := []) (ws1 := [(a0, .inr (7, [.int (q7_thrown o0), .ref a0_buffer, .int (q7_length o0), .int v11.2.1, .int v11.2.2.1, .int v11.2.2.2.1, .int v11.2.2.2.2.1, .int v11.2.2.2.2.2, .ref a0_now, .ref a0_made, .ref a0_history, .ref a0_saved, .int (q7_entries o0), .int (q7_isSaved o0), .ref a0_closed, .ref a0_faces, .ref a0_rankOf, .ref a0_placeOf, .int (q7_faceMany o0), .int (q7_isLaid o0), .ref a0_counted, .ref a0_steps, .ref a0_onto, .ref a0_goes, .int (q7_found o0), .int (q7_images o0), .ref a0_firstImage, .int (q7_gathered o0)])), (a0_buffer, .inl (zI Z, 300, .inl (q7_buffer o0))), (a0_made, .inl (zI Z, 12, .inl (q7_made o0)))]) rfl rfl rfl rfl ?_
      unfold fX7_readFacet_L37 at h
      refine g_aload_n C dX7_readFacet_37 rfl 0 rfl ?_
      obtain ⟨r12, hr13, h⟩ := bd_of h
      refine g_callVi C (kX7_isGood l Z a0 a0_buffer a0_now a0_made a0_history a0_saved a0_closed a0_faces a0_rankOf a0_placeOf a0_counted a0_steps a0_onto a0_goes a0_firstImage (s7_wrong (s7_number (s7_kind (s7_from (s7_at o0 v11.2.1) v11.2.2.1) v11.2.2.2.1) v11.2.2.2.2.1) v11.2.2.2.2.2) r12 hr13) 0 rfl (ci := 7) rfl rfl myX7_isGood 104 mw_5_227 rfl [0] [1, 2] [2, 0, 1] (wr := [(a0_buffer, .inl (zI Z, 300, .inl (q7_buffer o0))), (a0_made, .inl (zI Z, 12, .inl (q7_made o0)))]) rfl rfl (by decide) (by decide) (by decide) [(a0, .inr (7, [.int (q7_thrown o0), .ref a0_buffer, .int (q7_length o0), .int v11.2.1, .int v11.2.2.1, .int v11.2.2.2.1, .int v11.2.2.2.2.1, .int v11.2.2.2.2.2, .ref a0_now, .ref a0_made, .ref a0_history, .ref a0_saved, .int (q7_entries o0), .int (q7_isSaved o0), .ref a0_closed, .ref a0_faces, .ref a0_rankOf, .ref a0_placeOf, .int (q7_faceMany o0), .int (q7_isLaid o0), .ref a0_counted, .ref a0_steps, .ref a0_onto, .ref a0_goes, .int (q7_found o0), .int (q7_images o0), .ref a0_firstImage, .int (q7_gathered o0)])), (a0_buffer, .inl (zI Z, 300, .inl (q7_buffer o0))), (a0_made, .inl (zI Z, 12, .inl (q7_made o0)))] rfl (by decide) (Nat.le_of_ble_eq_true rfl) (by rw [hR]; exact Nat.le_of_ble_eq_true rfl) (by rw [hR]; exact Nat.le_of_ble_eq_true rfl) ⟨by rw [hR]; exact Nat.le_of_ble_eq_true rfl, by rw [hR]; exact Nat.le_of_ble_eq_true rfl⟩ rfl dX7_readFacet_38 ?_
      have hj65 : fX7_readFacet_J65 o0 v11 = some res → Gw p l e R s m args below meth c 2 Z A Q 0 0 65 [(0, .ref a0), (1, .int v11.1)] [] [(a0, .inr (7, [.int (q7_thrown o0), .ref a0_buffer, .int (q7_length o0), .int v11.2.1, .int v11.2.2.1, .int v11.2.2.2.1, .int v11.2.2.2.2.1, .int v11.2.2.2.2.2, .ref a0_now, .ref a0_made, .ref a0_history, .ref a0_saved, .int (q7_entries o0), .int (q7_isSaved o0), .ref a0_closed, .ref a0_faces, .ref a0_rankOf, .ref a0_placeOf, .int (q7_faceMany o0), .int (q7_isLaid o0), .ref a0_counted, .ref a0_steps, .ref a0_onto, .ref a0_goes, .int (q7_found o0), .int (q7_images o0), .ref a0_firstImage, .int (q7_gathered o0)])), (a0_buffer, .inl (zI Z, 300, .inl (q7_buffer o0))), (a0_made, .inl (zI Z, 12, .inl (q7_made o0)))] := by
        intro h
        unfold fX7_readFacet_J65 at h
        refine g_aload_n C dX7_readFacet_65 rfl 0 rfl ?_
        refine g_iload_n C dX7_readFacet_66 rfl 1 rfl ?_
        obtain ⟨r14, hr15, h⟩ := bd_of h
        refine g_callVv C (kX7_add l Z a0 a0_buffer a0_now a0_made a0_history a0_saved a0_closed a0_faces a0_rankOf a0_placeOf a0_counted a0_steps a0_onto a0_goes a0_firstImage (s7_wrong (s7_number (s7_kind (s7_from (s7_at o0 v11.2.1) v11.2.2.1) v11.2.2.2.1) v11.2.2.2.2.1) v11.2.2.2.2.2) v11.1 r14 hr15) 0 rfl (ci := 7) rfl rfl myX7_add 130 mw_6_17 rfl [0, 2] [1] [1, 0, 2] (wr := [(a0_buffer, .inl (zI Z, 300, .inl (q7_buffer o0)))]) rfl rfl (by decide) (by decide) (by decide) [(a0, .inr (7, [.int (q7_thrown o0), .ref a0_buffer, .int (q7_length o0), .int v11.2.1, .int v11.2.2.1, .int v11.2.2.2.1, .int v11.2.2.2.2.1, .int v11.2.2.2.2.2, .ref a0_now, .ref a0_made, .ref a0_history, .ref a0_saved, .int (q7_entries o0), .int (q7_isSaved o0), .ref a0_closed, .ref a0_faces, .ref a0_rankOf, .ref a0_placeOf, .int (q7_faceMany o0), .int (q7_isLaid o0), .ref a0_counted, .ref a0_steps, .ref a0_onto, .ref a0_goes, .int (q7_found o0), .int (q7_images o0), .ref a0_firstImage, .int (q7_gathered o0)])), (a0_buffer, .inl (zI Z, 300, .inl (q7_buffer o0))), (a0_made, .inl (zI Z, 12, .inl (q7_made r14)))] rfl (by decide) (Nat.le_of_ble_eq_true rfl) (by rw [hR]; exact Nat.le_of_ble_eq_true rfl) (by rw [hR]; exact Nat.le_of_ble_eq_true rfl) ⟨by rw [hR]; exact Nat.le_of_ble_eq_true rfl, by rw [hR]; exact Nat.le_of_ble_eq_true rfl⟩ rfl dX7_readFacet_67 ?_
        obtain rfl := Option.some.inj h
        subst hQ
        exact gx_vret C D rfl hr (Nat.le_of_ble_eq_true rfl) (Nat.le_of_ble_eq_true rfl) dX7_readFacet_70 [0, 1, 2] rfl (by decide)
      refine g_if_eq C 65 dX7_readFacet_41 (by decide) (fun c16 => ?_) (fun c16 => ?_)
      · replace h := it_t c16 h
        obtain ⟨r17, h, hy⟩ := ex_of h
        rw [hx1 r17 hy] at h
        exact hj65 h
      · replace h := it_f c16 h
        refine g_aload_n C dX7_readFacet_44 rfl 0 rfl ?_
        refine g_get C 7 88 gin7 0 rfl rfl 5 (by decide) mw_5_90 rfl rfl dX7_readFacet_45 ?_
        refine g_iconst C 2 dX7_readFacet_48 (by decide) ?_
        refine g_icmp_ne C 65 dX7_readFacet_49 (by decide) (fun c18 => ?_) (fun c18 => ?_)
        · replace h := it_f c18 h
          obtain ⟨r19, h, hy⟩ := ex_of h
          rw [hx1 r19 hy] at h
          exact hj65 h
        · replace h := it_t c18 h
          refine g_iload_n C dX7_readFacet_52 rfl 1 rfl ?_
          refine g_iconst C 1 dX7_readFacet_53 (by decide) ?_
          refine g_aload_n C dX7_readFacet_54 rfl 0 rfl ?_
          refine g_iload_n C dX7_readFacet_55 rfl 1 rfl ?_
          obtain ⟨r20, hr21, h⟩ := bd_of h
          refine g_callVi C (kX7_takePoint l Z a0 a0_buffer a0_now a0_made a0_history a0_saved a0_closed a0_faces a0_rankOf a0_placeOf a0_counted a0_steps a0_onto a0_goes a0_firstImage (s7_wrong (s7_number (s7_kind (s7_from (s7_at o0 v11.2.1) v11.2.2.1) v11.2.2.2.1) v11.2.2.2.2.1) v11.2.2.2.2.2) v11.1 r20 hr21) 0 rfl (ci := 7) rfl rfl myX7_takePoint 171 mw_6_41 rfl [0, 1, 2] [] [0, 1, 2] (wr := []) rfl rfl (by decide) (by decide) (by decide) [(a0, .inr (7, [.int (q7_thrown o0), .ref a0_buffer, .int (q7_length o0), .int (q7_at r20.2), .int (q7_from r20.2), .int (q7_kind r20.2), .int (q7_number r20.2), .int (q7_wrong r20.2), .ref a0_now, .ref a0_made, .ref a0_history, .ref a0_saved, .int (q7_entries o0), .int (q7_isSaved o0), .ref a0_closed, .ref a0_faces, .ref a0_rankOf, .ref a0_placeOf, .int (q7_faceMany o0), .int (q7_isLaid o0), .ref a0_counted, .ref a0_steps, .ref a0_onto, .ref a0_goes, .int (q7_found o0), .int (q7_images o0), .ref a0_firstImage, .int (q7_gathered o0)])), (a0_buffer, .inl (zI Z, 300, .inl (q7_buffer o0))), (a0_made, .inl (zI Z, 12, .inl (q7_made o0)))] rfl (by decide) (Nat.le_of_ble_eq_true rfl) (by rw [hR]; exact Nat.le_of_ble_eq_true rfl) (by rw [hR]; exact Nat.le_of_ble_eq_true rfl) ⟨by rw [hR]; exact Nat.le_of_ble_eq_true rfl, by rw [hR]; exact Nat.le_of_ble_eq_true rfl⟩ rfl dX7_readFacet_56 ?_
          refine g_ishl C dX7_readFacet_59 ?_
          refine g_ior C dX7_readFacet_60 ?_
          refine g_istore_n C dX7_readFacet_61 rfl (by decide) [(1, .int (v11.1 ||| (jshl 1 r20.1))), (0, .ref a0)] rfl ?_
          refine g_goto C 37 dX7_readFacet_62 (by decide) ?_
          refine g_lv [1, 0] [(0, .ref a0), (1, .int (v11.1 ||| (jshl 1 r20.1)))] rfl ?_
          exact hk1 ((v11.1 ||| (jshl 1 r20.1)), (q7_at r20.2), (q7_from r20.2), (q7_kind r20.2), (q7_number r20.2), (q7_wrong r20.2)) (Option.some.inj h).symm
    · replace h := it_t c6 h
      exact hj20 h
def fX7_parse_J58 (o0 : OX7) (v5 : Int32 × Int32 × Int32 × Int32 × Int32 × (Nat → Int32)) : Option (Int32 × OX7) :=
  (fX7_isGood (s7_made (s7_wrong (s7_number (s7_kind (s7_from (s7_at o0 v5.1) v5.2.1) v5.2.2.1) v5.2.2.2.1) v5.2.2.2.2.1) v5.2.2.2.2.2)).bind fun r8 =>
  (if r8 = 0 then (some (v5.2.2.2.2.1, (s7_made (s7_wrong (s7_number (s7_kind (s7_from (s7_at o0 v5.1) v5.2.1) v5.2.2.1) v5.2.2.2.1) v5.2.2.2.2.1) v5.2.2.2.2.2)))
  else (if v5.2.2.1 = 0 then (some (v5.2.2.2.2.1, (s7_made (s7_wrong (s7_number (s7_kind (s7_from (s7_at o0 v5.1) v5.2.1) v5.2.2.1) v5.2.2.2.1) v5.2.2.2.2.1) v5.2.2.2.2.2)))
  else ((fX7_fail (s7_made (s7_wrong (s7_number (s7_kind (s7_from (s7_at o0 v5.1) v5.2.1) v5.2.2.1) v5.2.2.2.1) v5.2.2.2.2.1) v5.2.2.2.2.2)).bind fun r12 =>
  (some ((q7_wrong r12), (s7_made (s7_wrong (s7_number (s7_kind (s7_from (s7_at o0 v5.1) v5.2.1) v5.2.2.1) v5.2.2.2.1) (q7_wrong r12)) v5.2.2.2.2.2))))))
def fX7_parse_L18 (o0 : OX7) (v5 : Int32 × Int32 × Int32 × Int32 × Int32 × (Nat → Int32)) : Option ((Int32 × Int32 × Int32 × Int32 × Int32 × (Nat → Int32)) ⊕ (Int32 × OX7)) :=
  (fX7_isGood (s7_made (s7_wrong (s7_number (s7_kind (s7_from (s7_at o0 v5.1) v5.2.1) v5.2.2.1) v5.2.2.2.1) v5.2.2.2.2.1) v5.2.2.2.2.2)).bind fun r6 =>
  (if r6 = 0 then (ex (fX7_parse_J58 o0 v5))
  else (if v5.2.2.1 = 3 then (ck (okI v5.2.1 300) (if ((q7_buffer o0) (ix v5.2.1)) = 59 then ((fX7_step (s7_made (s7_wrong (s7_number (s7_kind (s7_from (s7_at o0 v5.1) v5.2.1) v5.2.2.1) v5.2.2.2.1) v5.2.2.2.2.1) v5.2.2.2.2.2)).bind fun r21 =>
  ((fX7_readFacet (s7_made (s7_wrong (s7_number (s7_kind (s7_from (s7_at o0 (q7_at r21)) (q7_from r21)) (q7_kind r21)) (q7_number r21)) v5.2.2.2.2.1) v5.2.2.2.2.2)).bind fun r23 =>
  (some (.inl ((q7_at r23), (q7_from r23), (q7_kind r23), (q7_number r23), (q7_wrong r23), (q7_made r23))))))
  else (ex (fX7_parse_J58 o0 v5))))
  else (ex (fX7_parse_J58 o0 v5))))
def fX7_parse (o0 : OX7) : Option (Int32 × OX7) :=
  (fX7_step (s7_wrong (s7_at o0 0) (-1))).bind fun r1 =>
  ((fX7_readFirst (s7_wrong (s7_number (s7_kind (s7_from (s7_at o0 (q7_at r1)) (q7_from r1)) (q7_kind r1)) (q7_number r1)) (-1))).bind fun r3 =>
  (lp (fX7_parse_L18 o0) lpN ((q7_at r3), (q7_from r3), (q7_kind r3), (q7_number r3), (q7_wrong r3), (q7_made r3))))
theorem myX7_parse : MYv yX7_parse cX7_parse 1 (some .int) 0 := ⟨mw_5_198, ms_34, mw_5_199, mw_1_9, ⟨by decide +kernel, by decide +kernel⟩, by decide +kernel⟩
set_option maxRecDepth 100000 in
set_option maxHeartbeats 4000000 in
theorem kX7_parse (l : Launch) (hst : l.stackTraces = false) (Z : GZ) (Y : YZ) (a0 a0_buffer a0_now a0_made a0_history a0_saved a0_closed a0_faces a0_rankOf a0_placeOf a0_counted a0_steps a0_onto a0_goes a0_firstImage : Nat) (o0 : OX7) (res : Int32 × OX7) (h : fX7_parse o0 = some res) : XI l Z Y yX7_parse cX7_parse 1 .int 6 129 0 0 [.ref a0] [(a0, .inr (7, [.int (q7_thrown o0), .ref a0_buffer, .int (q7_length o0), .int (q7_at o0), .int (q7_from o0), .int (q7_kind o0), .int (q7_number o0), .int (q7_wrong o0), .ref a0_now, .ref a0_made, .ref a0_history, .ref a0_saved, .int (q7_entries o0), .int (q7_isSaved o0), .ref a0_closed, .ref a0_faces, .ref a0_rankOf, .ref a0_placeOf, .int (q7_faceMany o0), .int (q7_isLaid o0), .ref a0_counted, .ref a0_steps, .ref a0_onto, .ref a0_goes, .int (q7_found o0), .int (q7_images o0), .ref a0_firstImage, .int (q7_gathered o0)])), (a0_buffer, .inl (zI Z, 300, .inl (q7_buffer o0))), (a0_made, .inl (zI Z, 12, .inl (q7_made o0)))] (.inr res.1) [(a0, .inr (7, [.int (q7_thrown o0), .ref a0_buffer, .int (q7_length o0), .int (q7_at res.2), .int (q7_from res.2), .int (q7_kind res.2), .int (q7_number res.2), .int (q7_wrong res.2), .ref a0_now, .ref a0_made, .ref a0_history, .ref a0_saved, .int (q7_entries o0), .int (q7_isSaved o0), .ref a0_closed, .ref a0_faces, .ref a0_rankOf, .ref a0_placeOf, .int (q7_faceMany o0), .int (q7_isLaid o0), .ref a0_counted, .ref a0_steps, .ref a0_onto, .ref a0_goes, .int (q7_found o0), .int (q7_images o0), .ref a0_firstImage, .int (q7_gathered o0)])), (a0_buffer, .inl (zI Z, 300, .inl (q7_buffer o0))), (a0_made, .inl (zI Z, 12, .inl (q7_made res.2)))] := by
  refine XI_of hst (by decide +kernel) (Nat.le_of_ble_eq_true rfl) (fun {p e s m args below meth c} A R hR Q hQ C D hr => ?_)
  unfold fX7_parse at h
  refine g_lv [0] [(0, .ref a0)] rfl ?_
  refine g_aload_n C dX7_parse_0 rfl 0 rfl ?_
  refine g_iconst C 0 dX7_parse_1 (by decide) ?_
  refine g_put C 7 71 gin7 tyX7 tyX7_ok nmX7 0 rfl rfl 3 (by decide) mw_5_88 rfl rfl (ty := .int) (by decide +kernel) rfl rfl (Nat.le_of_ble_eq_true rfl) [(a0, .inr (7, [.int (q7_thrown o0), .ref a0_buffer, .int (q7_length o0), .int 0, .int (q7_from o0), .int (q7_kind o0), .int (q7_number o0), .int (q7_wrong o0), .ref a0_now, .ref a0_made, .ref a0_history, .ref a0_saved, .int (q7_entries o0), .int (q7_isSaved o0), .ref a0_closed, .ref a0_faces, .ref a0_rankOf, .ref a0_placeOf, .int (q7_faceMany o0), .int (q7_isLaid o0), .ref a0_counted, .ref a0_steps, .ref a0_onto, .ref a0_goes, .int (q7_found o0), .int (q7_images o0), .ref a0_firstImage, .int (q7_gathered o0)])), (a0_buffer, .inl (zI Z, 300, .inl (q7_buffer o0))), (a0_made, .inl (zI Z, 12, .inl (q7_made o0)))] rfl dX7_parse_2 ?_
  refine g_aload_n C dX7_parse_5 rfl 0 rfl ?_
  refine g_iconst C (-1) dX7_parse_6 (by decide) ?_
  refine g_put C 7 101 gin7 tyX7 tyX7_ok nmX7 0 rfl rfl 7 (by decide) mw_5_92 rfl rfl (ty := .int) (by decide +kernel) rfl rfl (Nat.le_of_ble_eq_true rfl) [(a0, .inr (7, [.int (q7_thrown o0), .ref a0_buffer, .int (q7_length o0), .int 0, .int (q7_from o0), .int (q7_kind o0), .int (q7_number o0), .int (-1), .ref a0_now, .ref a0_made, .ref a0_history, .ref a0_saved, .int (q7_entries o0), .int (q7_isSaved o0), .ref a0_closed, .ref a0_faces, .ref a0_rankOf, .ref a0_placeOf, .int (q7_faceMany o0), .int (q7_isLaid o0), .ref a0_counted, .ref a0_steps, .ref a0_onto, .ref a0_goes, .int (q7_found o0), .int (q7_images o0), .ref a0_firstImage, .int (q7_gathered o0)])), (a0_buffer, .inl (zI Z, 300, .inl (q7_buffer o0))), (a0_made, .inl (zI Z, 12, .inl (q7_made o0)))] rfl dX7_parse_7 ?_
  refine g_aload_n C dX7_parse_10 rfl 0 rfl ?_
  obtain ⟨r1, hr2, h⟩ := bd_of h
  refine g_callVv C (kX7_step l Z a0 a0_buffer a0_now a0_made a0_history a0_saved a0_closed a0_faces a0_rankOf a0_placeOf a0_counted a0_steps a0_onto a0_goes a0_firstImage (s7_wrong (s7_at o0 0) (-1)) r1 hr2) 0 rfl (ci := 7) rfl rfl myX7_step 120 mw_5_200 rfl [0, 1] [2] [1, 2, 0] (wr := [(a0_made, .inl (zI Z, 12, .inl (q7_made o0)))]) rfl rfl (by decide) (by decide) (by decide) [(a0, .inr (7, [.int (q7_thrown o0), .ref a0_buffer, .int (q7_length o0), .int (q7_at r1), .int (q7_from r1), .int (q7_kind r1), .int (q7_number r1), .int (-1), .ref a0_now, .ref a0_made, .ref a0_history, .ref a0_saved, .int (q7_entries o0), .int (q7_isSaved o0), .ref a0_closed, .ref a0_faces, .ref a0_rankOf, .ref a0_placeOf, .int (q7_faceMany o0), .int (q7_isLaid o0), .ref a0_counted, .ref a0_steps, .ref a0_onto, .ref a0_goes, .int (q7_found o0), .int (q7_images o0), .ref a0_firstImage, .int (q7_gathered o0)])), (a0_buffer, .inl (zI Z, 300, .inl (q7_buffer o0))), (a0_made, .inl (zI Z, 12, .inl (q7_made o0)))] rfl (by decide) (Nat.le_of_ble_eq_true rfl) (by rw [hR]; exact Nat.le_of_ble_eq_true rfl) (by rw [hR]; exact Nat.le_of_ble_eq_true rfl) ⟨by rw [hR]; exact Nat.le_of_ble_eq_true rfl, by rw [hR]; exact Nat.le_of_ble_eq_true rfl⟩ rfl dX7_parse_11 ?_
  refine g_aload_n C dX7_parse_14 rfl 0 rfl ?_
  obtain ⟨r3, hr4, h⟩ := bd_of h
  refine gx_callVv C D (kX7_readFirst l hst Z Y a0 a0_buffer a0_now a0_made a0_history a0_saved a0_closed a0_faces a0_rankOf a0_placeOf a0_counted a0_steps a0_onto a0_goes a0_firstImage (s7_wrong (s7_number (s7_kind (s7_from (s7_at o0 (q7_at r1)) (q7_from r1)) (q7_kind r1)) (q7_number r1)) (-1)) r3 hr4) (g_recv C 0 rfl (ci := 7) rfl rfl) myX7_readFirst 174 mw_5_218 rfl [0, 1, 2] [] [0, 1, 2] (wr := []) rfl rfl (by decide) (by decide) (by decide) [(a0, .inr (7, [.int (q7_thrown o0), .ref a0_buffer, .int (q7_length o0), .int (q7_at r3), .int (q7_from r3), .int (q7_kind r3), .int (q7_number r3), .int (q7_wrong r3), .ref a0_now, .ref a0_made, .ref a0_history, .ref a0_saved, .int (q7_entries o0), .int (q7_isSaved o0), .ref a0_closed, .ref a0_faces, .ref a0_rankOf, .ref a0_placeOf, .int (q7_faceMany o0), .int (q7_isLaid o0), .ref a0_counted, .ref a0_steps, .ref a0_onto, .ref a0_goes, .int (q7_found o0), .int (q7_images o0), .ref a0_firstImage, .int (q7_gathered o0)])), (a0_buffer, .inl (zI Z, 300, .inl (q7_buffer o0))), (a0_made, .inl (zI Z, 12, .inl (q7_made r3)))] rfl (by decide) (Nat.le_of_ble_eq_true rfl) (by rw [hR]; exact Nat.le_of_ble_eq_true rfl) (by rw [hR]; exact Nat.le_of_ble_eq_true rfl) ⟨by rw [hR]; exact Nat.le_of_ble_eq_true rfl, by rw [hR]; exact Nat.le_of_ble_eq_true rfl⟩ rfl dX7_parse_15 ?_
  refine g_loop (lvf := fun v5 => [(0, .ref a0)]) (wsf := fun v5 => [(a0, .inr (7, [.int (q7_thrown o0), .ref a0_buffer, .int (q7_length o0), .int v5.1, .int v5.2.1, .int v5.2.2.1, .int v5.2.2.2.1, .int v5.2.2.2.2.1, .ref a0_now, .ref a0_made, .ref a0_history, .ref a0_saved, .int (q7_entries o0), .int (q7_isSaved o0), .ref a0_closed, .ref a0_faces, .ref a0_rankOf, .ref a0_placeOf, .int (q7_faceMany o0), .int (q7_isLaid o0), .ref a0_counted, .ref a0_steps, .ref a0_onto, .ref a0_goes, .int (q7_found o0), .int (q7_images o0), .ref a0_firstImage, .int (q7_gathered o0)])), (a0_buffer, .inl (zI Z, 300, .inl (q7_buffer o0))), (a0_made, .inl (zI Z, 12, .inl v5.2.2.2.2.2))]) h (fun v5 y1 h hk1 hx1 => ?_)
  refine g_eq (lv1 := [(0, .ref a0)]) (st1 := []) (ws1 := [(a0, .inr (7, [.int (q7_thrown o0), .ref a0_buffer, .int (q7_length o0), .int v5.1, .int v5.2.1, .int v5.2.2.1, .int v5.2.2.2.1, .int v5.2.2.2.2.1, .ref a0_now, .ref a0_made, .ref a0_history, .ref a0_saved, .int (q7_entries o0), .int (q7_isSaved o0), .ref a0_closed, .ref a0_faces, .ref a0_rankOf, .ref a0_placeOf, .int (q7_faceMany o0), .int (q7_isLaid o0), .ref a0_counted, .ref a0_steps, .ref a0_onto, .ref a0_goes, .int (q7_found o0), .int (q7_images o0), .ref a0_firstImage, .int (q7_gathered o0)])), (a0_buffer, .inl (zI Z, 300, .inl (q7_buffer o0))), (a0_made, .inl (zI Z, 12, .inl v5.2.2.2.2.2))]) rfl rfl rfl rfl ?_
  unfold fX7_parse_L18 at h
  refine g_aload_n C dX7_parse_18 rfl 0 rfl ?_
  obtain ⟨r6, hr7, h⟩ := bd_of h
  refine g_callVi C (kX7_isGood l Z a0 a0_buffer a0_now a0_made a0_history a0_saved a0_closed a0_faces a0_rankOf a0_placeOf a0_counted a0_steps a0_onto a0_goes a0_firstImage (s7_made (s7_wrong (s7_number (s7_kind (s7_from (s7_at o0 v5.1) v5.2.1) v5.2.2.1) v5.2.2.2.1) v5.2.2.2.2.1) v5.2.2.2.2.2) r6 hr7) 0 rfl (ci := 7) rfl rfl myX7_isGood 104 mw_5_227 rfl [0] [1, 2] [2, 0, 1] (wr := [(a0_buffer, .inl (zI Z, 300, .inl (q7_buffer o0))), (a0_made, .inl (zI Z, 12, .inl v5.2.2.2.2.2))]) rfl rfl (by decide) (by decide) (by decide) [(a0, .inr (7, [.int (q7_thrown o0), .ref a0_buffer, .int (q7_length o0), .int v5.1, .int v5.2.1, .int v5.2.2.1, .int v5.2.2.2.1, .int v5.2.2.2.2.1, .ref a0_now, .ref a0_made, .ref a0_history, .ref a0_saved, .int (q7_entries o0), .int (q7_isSaved o0), .ref a0_closed, .ref a0_faces, .ref a0_rankOf, .ref a0_placeOf, .int (q7_faceMany o0), .int (q7_isLaid o0), .ref a0_counted, .ref a0_steps, .ref a0_onto, .ref a0_goes, .int (q7_found o0), .int (q7_images o0), .ref a0_firstImage, .int (q7_gathered o0)])), (a0_buffer, .inl (zI Z, 300, .inl (q7_buffer o0))), (a0_made, .inl (zI Z, 12, .inl v5.2.2.2.2.2))] rfl (by decide) (Nat.le_of_ble_eq_true rfl) (by rw [hR]; exact Nat.le_of_ble_eq_true rfl) (by rw [hR]; exact Nat.le_of_ble_eq_true rfl) ⟨by rw [hR]; exact Nat.le_of_ble_eq_true rfl, by rw [hR]; exact Nat.le_of_ble_eq_true rfl⟩ rfl dX7_parse_19 ?_
  have hj58 : fX7_parse_J58 o0 v5 = some res → Gw p l e R s m args below meth c 1 Z A Q 0 0 58 [(0, .ref a0)] [] [(a0, .inr (7, [.int (q7_thrown o0), .ref a0_buffer, .int (q7_length o0), .int v5.1, .int v5.2.1, .int v5.2.2.1, .int v5.2.2.2.1, .int v5.2.2.2.2.1, .ref a0_now, .ref a0_made, .ref a0_history, .ref a0_saved, .int (q7_entries o0), .int (q7_isSaved o0), .ref a0_closed, .ref a0_faces, .ref a0_rankOf, .ref a0_placeOf, .int (q7_faceMany o0), .int (q7_isLaid o0), .ref a0_counted, .ref a0_steps, .ref a0_onto, .ref a0_goes, .int (q7_found o0), .int (q7_images o0), .ref a0_firstImage, .int (q7_gathered o0)])), (a0_buffer, .inl (zI Z, 300, .inl (q7_buffer o0))), (a0_made, .inl (zI Z, 12, .inl v5.2.2.2.2.2))] := by
    intro h
    unfold fX7_parse_J58 at h
    refine g_aload_n C dX7_parse_58 rfl 0 rfl ?_
    obtain ⟨r8, hr9, h⟩ := bd_of h
    refine g_callVi C (kX7_isGood l Z a0 a0_buffer a0_now a0_made a0_history a0_saved a0_closed a0_faces a0_rankOf a0_placeOf a0_counted a0_steps a0_onto a0_goes a0_firstImage (s7_made (s7_wrong (s7_number (s7_kind (s7_from (s7_at o0 v5.1) v5.2.1) v5.2.2.1) v5.2.2.2.1) v5.2.2.2.2.1) v5.2.2.2.2.2) r8 hr9) 0 rfl (ci := 7) rfl rfl myX7_isGood 104 mw_5_227 rfl [0] [1, 2] [2, 0, 1] (wr := [(a0_buffer, .inl (zI Z, 300, .inl (q7_buffer o0))), (a0_made, .inl (zI Z, 12, .inl v5.2.2.2.2.2))]) rfl rfl (by decide) (by decide) (by decide) [(a0, .inr (7, [.int (q7_thrown o0), .ref a0_buffer, .int (q7_length o0), .int v5.1, .int v5.2.1, .int v5.2.2.1, .int v5.2.2.2.1, .int v5.2.2.2.2.1, .ref a0_now, .ref a0_made, .ref a0_history, .ref a0_saved, .int (q7_entries o0), .int (q7_isSaved o0), .ref a0_closed, .ref a0_faces, .ref a0_rankOf, .ref a0_placeOf, .int (q7_faceMany o0), .int (q7_isLaid o0), .ref a0_counted, .ref a0_steps, .ref a0_onto, .ref a0_goes, .int (q7_found o0), .int (q7_images o0), .ref a0_firstImage, .int (q7_gathered o0)])), (a0_buffer, .inl (zI Z, 300, .inl (q7_buffer o0))), (a0_made, .inl (zI Z, 12, .inl v5.2.2.2.2.2))] rfl (by decide) (Nat.le_of_ble_eq_true rfl) (by rw [hR]; exact Nat.le_of_ble_eq_true rfl) (by rw [hR]; exact Nat.le_of_ble_eq_true rfl) ⟨by rw [hR]; exact Nat.le_of_ble_eq_true rfl, by rw [hR]; exact Nat.le_of_ble_eq_true rfl⟩ rfl dX7_parse_59 ?_
    refine g_if_eq C 76 dX7_parse_62 (by decide) (fun c10 => ?_) (fun c10 => ?_)
    · replace h := it_t c10 h
      refine g_aload_n C dX7_parse_76 rfl 0 rfl ?_
      refine g_get C 7 101 gin7 0 rfl rfl 7 (by decide) mw_5_92 rfl rfl dX7_parse_77 ?_
      obtain rfl := Option.some.inj h
      subst hQ
      exact gx_iret C D rfl rfl hr (Nat.le_of_ble_eq_true rfl) (Nat.le_of_ble_eq_true rfl) dX7_parse_80 [0, 1, 2] rfl (by decide)
    · replace h := it_f c10 h
      refine g_aload_n C dX7_parse_65 rfl 0 rfl ?_
      refine g_get C 7 88 gin7 0 rfl rfl 5 (by decide) mw_5_90 rfl rfl dX7_parse_66 ?_
      refine g_if_eq C 76 dX7_parse_69 (by decide) (fun c11 => ?_) (fun c11 => ?_)
      · replace h := it_t c11 h
        refine g_aload_n C dX7_parse_76 rfl 0 rfl ?_
        refine g_get C 7 101 gin7 0 rfl rfl 7 (by decide) mw_5_92 rfl rfl dX7_parse_77 ?_
        obtain rfl := Option.some.inj h
        subst hQ
        exact gx_iret C D rfl rfl hr (Nat.le_of_ble_eq_true rfl) (Nat.le_of_ble_eq_true rfl) dX7_parse_80 [0, 1, 2] rfl (by decide)
      · replace h := it_f c11 h
        refine g_aload_n C dX7_parse_72 rfl 0 rfl ?_
        obtain ⟨r12, hr13, h⟩ := bd_of h
        refine g_callVv C (kX7_fail l Z a0 a0_buffer a0_now a0_made a0_history a0_saved a0_closed a0_faces a0_rankOf a0_placeOf a0_counted a0_steps a0_onto a0_goes a0_firstImage (s7_made (s7_wrong (s7_number (s7_kind (s7_from (s7_at o0 v5.1) v5.2.1) v5.2.2.1) v5.2.2.2.1) v5.2.2.2.2.1) v5.2.2.2.2.2) r12 hr13) 0 rfl (ci := 7) rfl rfl myX7_fail 117 mw_6_1 rfl [0] [1, 2] [2, 0, 1] (wr := [(a0_buffer, .inl (zI Z, 300, .inl (q7_buffer o0))), (a0_made, .inl (zI Z, 12, .inl v5.2.2.2.2.2))]) rfl rfl (by decide) (by decide) (by decide) [(a0, .inr (7, [.int (q7_thrown o0), .ref a0_buffer, .int (q7_length o0), .int v5.1, .int v5.2.1, .int v5.2.2.1, .int v5.2.2.2.1, .int (q7_wrong r12), .ref a0_now, .ref a0_made, .ref a0_history, .ref a0_saved, .int (q7_entries o0), .int (q7_isSaved o0), .ref a0_closed, .ref a0_faces, .ref a0_rankOf, .ref a0_placeOf, .int (q7_faceMany o0), .int (q7_isLaid o0), .ref a0_counted, .ref a0_steps, .ref a0_onto, .ref a0_goes, .int (q7_found o0), .int (q7_images o0), .ref a0_firstImage, .int (q7_gathered o0)])), (a0_buffer, .inl (zI Z, 300, .inl (q7_buffer o0))), (a0_made, .inl (zI Z, 12, .inl v5.2.2.2.2.2))] rfl (by decide) (Nat.le_of_ble_eq_true rfl) (by rw [hR]; exact Nat.le_of_ble_eq_true rfl) (by rw [hR]; exact Nat.le_of_ble_eq_true rfl) ⟨by rw [hR]; exact Nat.le_of_ble_eq_true rfl, by rw [hR]; exact Nat.le_of_ble_eq_true rfl⟩ rfl dX7_parse_73 ?_
        refine g_aload_n C dX7_parse_76 rfl 0 rfl ?_
        refine g_get C 7 101 gin7 0 rfl rfl 7 (by decide) mw_5_92 rfl rfl dX7_parse_77 ?_
        obtain rfl := Option.some.inj h
        subst hQ
        exact gx_iret C D rfl rfl hr (Nat.le_of_ble_eq_true rfl) (Nat.le_of_ble_eq_true rfl) dX7_parse_80 [0, 1, 2] rfl (by decide)
  refine g_if_eq C 58 dX7_parse_22 (by decide) (fun c14 => ?_) (fun c14 => ?_)
  · replace h := it_t c14 h
    obtain ⟨r15, h, hy⟩ := ex_of h
    rw [hx1 r15 hy] at h
    exact hj58 h
  · replace h := it_f c14 h
    refine g_aload_n C dX7_parse_25 rfl 0 rfl ?_
    refine g_get C 7 88 gin7 0 rfl rfl 5 (by decide) mw_5_90 rfl rfl dX7_parse_26 ?_
    refine g_iconst C 3 dX7_parse_29 (by decide) ?_
    refine g_icmp_ne C 58 dX7_parse_30 (by decide) (fun c16 => ?_) (fun c16 => ?_)
    · replace h := it_f c16 h
      obtain ⟨r17, h, hy⟩ := ex_of h
      rw [hx1 r17 hy] at h
      exact hj58 h
    · replace h := it_t c16 h
      refine g_aload_n C dX7_parse_33 rfl 0 rfl ?_
      refine g_get C 7 9 gin7 0 rfl rfl 1 (by decide) mw_5_86 rfl rfl dX7_parse_34 ?_
      refine g_aload_n C dX7_parse_37 rfl 0 rfl ?_
      refine g_get C 7 78 gin7 0 rfl rfl 4 (by decide) mw_5_89 rfl rfl dX7_parse_38 ?_
      obtain ⟨hi18, h⟩ := ck_of h
      refine g_iald C 1 rfl hi18 dX7_parse_41 ?_
      refine g_bipush C 59 dX7_parse_42 (by decide) ?_
      refine g_icmp_ne C 58 dX7_parse_44 (by decide) (fun c19 => ?_) (fun c19 => ?_)
      · replace h := it_f c19 h
        obtain ⟨r20, h, hy⟩ := ex_of h
        rw [hx1 r20 hy] at h
        exact hj58 h
      · replace h := it_t c19 h
        refine g_aload_n C dX7_parse_47 rfl 0 rfl ?_
        obtain ⟨r21, hr22, h⟩ := bd_of h
        refine g_callVv C (kX7_step l Z a0 a0_buffer a0_now a0_made a0_history a0_saved a0_closed a0_faces a0_rankOf a0_placeOf a0_counted a0_steps a0_onto a0_goes a0_firstImage (s7_made (s7_wrong (s7_number (s7_kind (s7_from (s7_at o0 v5.1) v5.2.1) v5.2.2.1) v5.2.2.2.1) v5.2.2.2.2.1) v5.2.2.2.2.2) r21 hr22) 0 rfl (ci := 7) rfl rfl myX7_step 120 mw_5_200 rfl [0, 1] [2] [1, 2, 0] (wr := [(a0_made, .inl (zI Z, 12, .inl v5.2.2.2.2.2))]) rfl rfl (by decide) (by decide) (by decide) [(a0, .inr (7, [.int (q7_thrown o0), .ref a0_buffer, .int (q7_length o0), .int (q7_at r21), .int (q7_from r21), .int (q7_kind r21), .int (q7_number r21), .int v5.2.2.2.2.1, .ref a0_now, .ref a0_made, .ref a0_history, .ref a0_saved, .int (q7_entries o0), .int (q7_isSaved o0), .ref a0_closed, .ref a0_faces, .ref a0_rankOf, .ref a0_placeOf, .int (q7_faceMany o0), .int (q7_isLaid o0), .ref a0_counted, .ref a0_steps, .ref a0_onto, .ref a0_goes, .int (q7_found o0), .int (q7_images o0), .ref a0_firstImage, .int (q7_gathered o0)])), (a0_buffer, .inl (zI Z, 300, .inl (q7_buffer o0))), (a0_made, .inl (zI Z, 12, .inl v5.2.2.2.2.2))] rfl (by decide) (Nat.le_of_ble_eq_true rfl) (by rw [hR]; exact Nat.le_of_ble_eq_true rfl) (by rw [hR]; exact Nat.le_of_ble_eq_true rfl) ⟨by rw [hR]; exact Nat.le_of_ble_eq_true rfl, by rw [hR]; exact Nat.le_of_ble_eq_true rfl⟩ rfl dX7_parse_48 ?_
        refine g_aload_n C dX7_parse_51 rfl 0 rfl ?_
        obtain ⟨r23, hr24, h⟩ := bd_of h
        refine gx_callVv C D (kX7_readFacet l hst Z Y a0 a0_buffer a0_now a0_made a0_history a0_saved a0_closed a0_faces a0_rankOf a0_placeOf a0_counted a0_steps a0_onto a0_goes a0_firstImage (s7_made (s7_wrong (s7_number (s7_kind (s7_from (s7_at o0 (q7_at r21)) (q7_from r21)) (q7_kind r21)) (q7_number r21)) v5.2.2.2.2.1) v5.2.2.2.2.2) r23 hr24) (g_recv C 0 rfl (ci := 7) rfl rfl) myX7_readFacet 177 mw_6_36 rfl [0, 1, 2] [] [0, 1, 2] (wr := []) rfl rfl (by decide) (by decide) (by decide) [(a0, .inr (7, [.int (q7_thrown o0), .ref a0_buffer, .int (q7_length o0), .int (q7_at r23), .int (q7_from r23), .int (q7_kind r23), .int (q7_number r23), .int (q7_wrong r23), .ref a0_now, .ref a0_made, .ref a0_history, .ref a0_saved, .int (q7_entries o0), .int (q7_isSaved o0), .ref a0_closed, .ref a0_faces, .ref a0_rankOf, .ref a0_placeOf, .int (q7_faceMany o0), .int (q7_isLaid o0), .ref a0_counted, .ref a0_steps, .ref a0_onto, .ref a0_goes, .int (q7_found o0), .int (q7_images o0), .ref a0_firstImage, .int (q7_gathered o0)])), (a0_buffer, .inl (zI Z, 300, .inl (q7_buffer o0))), (a0_made, .inl (zI Z, 12, .inl (q7_made r23)))] rfl (by decide) (Nat.le_of_ble_eq_true rfl) (by rw [hR]; exact Nat.le_of_ble_eq_true rfl) (by rw [hR]; exact Nat.le_of_ble_eq_true rfl) ⟨by rw [hR]; exact Nat.le_of_ble_eq_true rfl, by rw [hR]; exact Nat.le_of_ble_eq_true rfl⟩ rfl dX7_parse_52 ?_
        refine g_goto C 18 dX7_parse_55 (by decide) ?_
        exact hk1 ((q7_at r23), (q7_from r23), (q7_kind r23), (q7_number r23), (q7_wrong r23), (q7_made r23)) (Option.some.inj h).symm
def fX7_errorPosition (o0 : OX7) : Option (Int32 × OX7) :=
  (fX7_parse (s7_thrown o0 0)).bind fun r1 =>
  (some (r1.1, (s7_made (s7_wrong (s7_number (s7_kind (s7_from (s7_at (s7_thrown o0 0) (q7_at r1.2)) (q7_from r1.2)) (q7_kind r1.2)) (q7_number r1.2)) (q7_wrong r1.2)) (q7_made r1.2))))
theorem myX7_errorPosition : MYv yX7_errorPosition cX7_errorPosition 1 (some .int) 0 := ⟨mw_5_193, mw_5_194, mw_5_195, mw_1_9, ⟨by decide +kernel, by decide +kernel⟩, by decide +kernel⟩
set_option maxRecDepth 100000 in
set_option maxHeartbeats 4000000 in
theorem kX7_errorPosition (l : Launch) (hst : l.stackTraces = false) (Z : GZ) (Y : YZ) (a0 a0_buffer a0_now a0_made a0_history a0_saved a0_closed a0_faces a0_rankOf a0_placeOf a0_counted a0_steps a0_onto a0_goes a0_firstImage : Nat) (o0 : OX7) (res : Int32 × OX7) (h : fX7_errorPosition o0 = some res) : XI l Z Y yX7_errorPosition cX7_errorPosition 1 .int 7 149 0 0 [.ref a0] [(a0, .inr (7, [.int (q7_thrown o0), .ref a0_buffer, .int (q7_length o0), .int (q7_at o0), .int (q7_from o0), .int (q7_kind o0), .int (q7_number o0), .int (q7_wrong o0), .ref a0_now, .ref a0_made, .ref a0_history, .ref a0_saved, .int (q7_entries o0), .int (q7_isSaved o0), .ref a0_closed, .ref a0_faces, .ref a0_rankOf, .ref a0_placeOf, .int (q7_faceMany o0), .int (q7_isLaid o0), .ref a0_counted, .ref a0_steps, .ref a0_onto, .ref a0_goes, .int (q7_found o0), .int (q7_images o0), .ref a0_firstImage, .int (q7_gathered o0)])), (a0_buffer, .inl (zI Z, 300, .inl (q7_buffer o0))), (a0_made, .inl (zI Z, 12, .inl (q7_made o0)))] (.inr res.1) [(a0, .inr (7, [.int (q7_thrown res.2), .ref a0_buffer, .int (q7_length o0), .int (q7_at res.2), .int (q7_from res.2), .int (q7_kind res.2), .int (q7_number res.2), .int (q7_wrong res.2), .ref a0_now, .ref a0_made, .ref a0_history, .ref a0_saved, .int (q7_entries o0), .int (q7_isSaved o0), .ref a0_closed, .ref a0_faces, .ref a0_rankOf, .ref a0_placeOf, .int (q7_faceMany o0), .int (q7_isLaid o0), .ref a0_counted, .ref a0_steps, .ref a0_onto, .ref a0_goes, .int (q7_found o0), .int (q7_images o0), .ref a0_firstImage, .int (q7_gathered o0)])), (a0_buffer, .inl (zI Z, 300, .inl (q7_buffer o0))), (a0_made, .inl (zI Z, 12, .inl (q7_made res.2)))] := by
  refine XI_of hst (by decide +kernel) (Nat.le_of_ble_eq_true rfl) (fun {p e s m args below meth c} A R hR Q hQ C D hr => ?_)
  unfold fX7_errorPosition at h
  refine g_lv [0] [(0, .ref a0)] rfl ?_
  refine g_aload_n C dX7_errorPosition_0 rfl 0 rfl ?_
  refine g_iconst C 0 dX7_errorPosition_1 (by decide) ?_
  refine g_put C 7 52 gin7 tyX7 tyX7_ok nmX7 0 rfl rfl 0 (by decide) mw_5_85 rfl rfl (ty := .int) (by decide +kernel) rfl rfl (Nat.le_of_ble_eq_true rfl) [(a0, .inr (7, [.int 0, .ref a0_buffer, .int (q7_length o0), .int (q7_at o0), .int (q7_from o0), .int (q7_kind o0), .int (q7_number o0), .int (q7_wrong o0), .ref a0_now, .ref a0_made, .ref a0_history, .ref a0_saved, .int (q7_entries o0), .int (q7_isSaved o0), .ref a0_closed, .ref a0_faces, .ref a0_rankOf, .ref a0_placeOf, .int (q7_faceMany o0), .int (q7_isLaid o0), .ref a0_counted, .ref a0_steps, .ref a0_onto, .ref a0_goes, .int (q7_found o0), .int (q7_images o0), .ref a0_firstImage, .int (q7_gathered o0)])), (a0_buffer, .inl (zI Z, 300, .inl (q7_buffer o0))), (a0_made, .inl (zI Z, 12, .inl (q7_made o0)))] rfl dX7_errorPosition_2 ?_
  refine g_aload_n C dX7_errorPosition_5 rfl 0 rfl ?_
  obtain ⟨r1, hr2, h⟩ := bd_of h
  refine gx_callVi C D (kX7_parse l hst Z Y a0 a0_buffer a0_now a0_made a0_history a0_saved a0_closed a0_faces a0_rankOf a0_placeOf a0_counted a0_steps a0_onto a0_goes a0_firstImage (s7_thrown o0 0) r1 hr2) (g_recv C 0 rfl (ci := 7) rfl rfl) myX7_parse 180 mw_5_196 rfl [0, 1, 2] [] [0, 1, 2] (wr := []) rfl rfl (by decide) (by decide) (by decide) [(a0, .inr (7, [.int 0, .ref a0_buffer, .int (q7_length o0), .int (q7_at r1.2), .int (q7_from r1.2), .int (q7_kind r1.2), .int (q7_number r1.2), .int (q7_wrong r1.2), .ref a0_now, .ref a0_made, .ref a0_history, .ref a0_saved, .int (q7_entries o0), .int (q7_isSaved o0), .ref a0_closed, .ref a0_faces, .ref a0_rankOf, .ref a0_placeOf, .int (q7_faceMany o0), .int (q7_isLaid o0), .ref a0_counted, .ref a0_steps, .ref a0_onto, .ref a0_goes, .int (q7_found o0), .int (q7_images o0), .ref a0_firstImage, .int (q7_gathered o0)])), (a0_buffer, .inl (zI Z, 300, .inl (q7_buffer o0))), (a0_made, .inl (zI Z, 12, .inl (q7_made r1.2)))] rfl (by decide) (Nat.le_of_ble_eq_true rfl) (by rw [hR]; exact Nat.le_of_ble_eq_true rfl) (by rw [hR]; exact Nat.le_of_ble_eq_true rfl) ⟨by rw [hR]; exact Nat.le_of_ble_eq_true rfl, by rw [hR]; exact Nat.le_of_ble_eq_true rfl⟩ rfl dX7_errorPosition_6 ?_
  obtain rfl := Option.some.inj h
  subst hQ
  exact gx_iret C D rfl rfl hr (Nat.le_of_ble_eq_true rfl) (Nat.le_of_ble_eq_true rfl) dX7_errorPosition_9 [0, 1, 2] rfl (by decide)
def fX7_load_J18 (o0 : OX7) (r1 : Int32 × OX7) (x3 : Int32) : Option (Int32 × OX7) :=
  (fX7_fails (s7_made (s7_wrong (s7_number (s7_kind (s7_from (s7_at (s7_thrown o0 0) (q7_at r1.2)) (q7_from r1.2)) (q7_kind r1.2)) (q7_number r1.2)) (q7_wrong r1.2)) (q7_made r1.2)) x3 1).bind fun r4 =>
  (if r4.1 = 0 then ((fX7_takeMade (s7_made (s7_wrong (s7_number (s7_kind (s7_from (s7_at (s7_thrown o0 (q7_thrown r4.2)) (q7_at r1.2)) (q7_from r1.2)) (q7_kind r1.2)) (q7_number r1.2)) (q7_wrong r1.2)) (q7_made r1.2))).bind fun r7 =>
  (some (((q7_now r7) (ix 1)), (s7_isLaid (s7_isSaved (s7_entries (s7_made (s7_now (s7_wrong (s7_number (s7_kind (s7_from (s7_at (s7_length (s7_thrown o0 (q7_thrown r4.2)) 0) (q7_at r1.2)) (q7_from r1.2)) (q7_kind r1.2)) (q7_number r1.2)) (q7_wrong r1.2)) (q7_now r7)) (q7_made r1.2)) 0) 0) (q7_isLaid r7)))))
  else (some (0, (s7_made (s7_wrong (s7_number (s7_kind (s7_from (s7_at (s7_thrown o0 (q7_thrown r4.2)) (q7_at r1.2)) (q7_from r1.2)) (q7_kind r1.2)) (q7_number r1.2)) (q7_wrong r1.2)) (q7_made r1.2)))))
def fX7_load (o0 : OX7) : Option (Int32 × OX7) :=
  (fX7_parse (s7_thrown o0 0)).bind fun r1 =>
  (if 0 ≤ r1.1 then (fX7_load_J18 o0 r1 0)
  else (fX7_load_J18 o0 r1 1))
theorem myX7_load : MYv yX7_load cX7_load 1 (some .int) 0 := ⟨mw_6_49, mw_6_50, mw_6_51, mw_1_9, ⟨by decide +kernel, by decide +kernel⟩, by decide +kernel⟩
set_option maxRecDepth 100000 in
set_option maxHeartbeats 4000000 in
theorem kX7_load (l : Launch) (hst : l.stackTraces = false) (Z : GZ) (Y : YZ) (a0 a0_buffer a0_now a0_made a0_history a0_saved a0_closed a0_faces a0_rankOf a0_placeOf a0_counted a0_steps a0_onto a0_goes a0_firstImage : Nat) (o0 : OX7) (res : Int32 × OX7) (h : fX7_load o0 = some res) : XI l Z Y yX7_load cX7_load 1 .int 7 149 0 0 [.ref a0] [(a0, .inr (7, [.int (q7_thrown o0), .ref a0_buffer, .int (q7_length o0), .int (q7_at o0), .int (q7_from o0), .int (q7_kind o0), .int (q7_number o0), .int (q7_wrong o0), .ref a0_now, .ref a0_made, .ref a0_history, .ref a0_saved, .int (q7_entries o0), .int (q7_isSaved o0), .ref a0_closed, .ref a0_faces, .ref a0_rankOf, .ref a0_placeOf, .int (q7_faceMany o0), .int (q7_isLaid o0), .ref a0_counted, .ref a0_steps, .ref a0_onto, .ref a0_goes, .int (q7_found o0), .int (q7_images o0), .ref a0_firstImage, .int (q7_gathered o0)])), (a0_buffer, .inl (zI Z, 300, .inl (q7_buffer o0))), (a0_now, .inl (zI Z, 12, .inl (q7_now o0))), (a0_made, .inl (zI Z, 12, .inl (q7_made o0)))] (.inr res.1) [(a0, .inr (7, [.int (q7_thrown res.2), .ref a0_buffer, .int (q7_length res.2), .int (q7_at res.2), .int (q7_from res.2), .int (q7_kind res.2), .int (q7_number res.2), .int (q7_wrong res.2), .ref a0_now, .ref a0_made, .ref a0_history, .ref a0_saved, .int (q7_entries res.2), .int (q7_isSaved res.2), .ref a0_closed, .ref a0_faces, .ref a0_rankOf, .ref a0_placeOf, .int (q7_faceMany o0), .int (q7_isLaid res.2), .ref a0_counted, .ref a0_steps, .ref a0_onto, .ref a0_goes, .int (q7_found o0), .int (q7_images o0), .ref a0_firstImage, .int (q7_gathered o0)])), (a0_buffer, .inl (zI Z, 300, .inl (q7_buffer o0))), (a0_now, .inl (zI Z, 12, .inl (q7_now res.2))), (a0_made, .inl (zI Z, 12, .inl (q7_made res.2)))] := by
  refine XI_of hst (by decide +kernel) (Nat.le_of_ble_eq_true rfl) (fun {p e s m args below meth c} A R hR Q hQ C D hr => ?_)
  unfold fX7_load at h
  refine g_lv [0] [(0, .ref a0)] rfl ?_
  refine g_aload_n C dX7_load_0 rfl 0 rfl ?_
  refine g_iconst C 0 dX7_load_1 (by decide) ?_
  refine g_put C 7 52 gin7 tyX7 tyX7_ok nmX7 0 rfl rfl 0 (by decide) mw_5_85 rfl rfl (ty := .int) (by decide +kernel) rfl rfl (Nat.le_of_ble_eq_true rfl) [(a0, .inr (7, [.int 0, .ref a0_buffer, .int (q7_length o0), .int (q7_at o0), .int (q7_from o0), .int (q7_kind o0), .int (q7_number o0), .int (q7_wrong o0), .ref a0_now, .ref a0_made, .ref a0_history, .ref a0_saved, .int (q7_entries o0), .int (q7_isSaved o0), .ref a0_closed, .ref a0_faces, .ref a0_rankOf, .ref a0_placeOf, .int (q7_faceMany o0), .int (q7_isLaid o0), .ref a0_counted, .ref a0_steps, .ref a0_onto, .ref a0_goes, .int (q7_found o0), .int (q7_images o0), .ref a0_firstImage, .int (q7_gathered o0)])), (a0_buffer, .inl (zI Z, 300, .inl (q7_buffer o0))), (a0_now, .inl (zI Z, 12, .inl (q7_now o0))), (a0_made, .inl (zI Z, 12, .inl (q7_made o0)))] rfl dX7_load_2 ?_
  refine g_aload_n C dX7_load_5 rfl 0 rfl ?_
  refine g_aload_n C dX7_load_6 rfl 0 rfl ?_
  obtain ⟨r1, hr2, h⟩ := bd_of h
  refine gx_callVi C D (kX7_parse l hst Z Y a0 a0_buffer a0_now a0_made a0_history a0_saved a0_closed a0_faces a0_rankOf a0_placeOf a0_counted a0_steps a0_onto a0_goes a0_firstImage (s7_thrown o0 0) r1 hr2) (g_recv C 0 rfl (ci := 7) rfl rfl) myX7_parse 180 mw_5_196 rfl [0, 1, 3] [2] [1, 2, 0, 3] (wr := [(a0_now, .inl (zI Z, 12, .inl (q7_now o0)))]) rfl rfl (by decide) (by decide) (by decide) [(a0, .inr (7, [.int 0, .ref a0_buffer, .int (q7_length o0), .int (q7_at r1.2), .int (q7_from r1.2), .int (q7_kind r1.2), .int (q7_number r1.2), .int (q7_wrong r1.2), .ref a0_now, .ref a0_made, .ref a0_history, .ref a0_saved, .int (q7_entries o0), .int (q7_isSaved o0), .ref a0_closed, .ref a0_faces, .ref a0_rankOf, .ref a0_placeOf, .int (q7_faceMany o0), .int (q7_isLaid o0), .ref a0_counted, .ref a0_steps, .ref a0_onto, .ref a0_goes, .int (q7_found o0), .int (q7_images o0), .ref a0_firstImage, .int (q7_gathered o0)])), (a0_buffer, .inl (zI Z, 300, .inl (q7_buffer o0))), (a0_now, .inl (zI Z, 12, .inl (q7_now o0))), (a0_made, .inl (zI Z, 12, .inl (q7_made r1.2)))] rfl (by decide) (Nat.le_of_ble_eq_true rfl) (by rw [hR]; exact Nat.le_of_ble_eq_true rfl) (by rw [hR]; exact Nat.le_of_ble_eq_true rfl) ⟨by rw [hR]; exact Nat.le_of_ble_eq_true rfl, by rw [hR]; exact Nat.le_of_ble_eq_true rfl⟩ rfl dX7_load_7 ?_
  have hj18 : ∀ (x3 : Int32), fX7_load_J18 o0 r1 x3 = some res → Gw p l e R s m args below meth c 1 Z A Q 0 0 18 [(0, .ref a0)] [.int x3, .ref a0] [(a0, .inr (7, [.int 0, .ref a0_buffer, .int (q7_length o0), .int (q7_at r1.2), .int (q7_from r1.2), .int (q7_kind r1.2), .int (q7_number r1.2), .int (q7_wrong r1.2), .ref a0_now, .ref a0_made, .ref a0_history, .ref a0_saved, .int (q7_entries o0), .int (q7_isSaved o0), .ref a0_closed, .ref a0_faces, .ref a0_rankOf, .ref a0_placeOf, .int (q7_faceMany o0), .int (q7_isLaid o0), .ref a0_counted, .ref a0_steps, .ref a0_onto, .ref a0_goes, .int (q7_found o0), .int (q7_images o0), .ref a0_firstImage, .int (q7_gathered o0)])), (a0_buffer, .inl (zI Z, 300, .inl (q7_buffer o0))), (a0_now, .inl (zI Z, 12, .inl (q7_now o0))), (a0_made, .inl (zI Z, 12, .inl (q7_made r1.2)))] := by
    intro x3 h
    unfold fX7_load_J18 at h
    refine g_iconst C 1 dX7_load_18 (by decide) ?_
    obtain ⟨r4, hr5, h⟩ := bd_of h
    refine g_callVi C (kX7_fails l Z a0 a0_buffer a0_now a0_made a0_history a0_saved a0_closed a0_faces a0_rankOf a0_placeOf a0_counted a0_steps a0_onto a0_goes a0_firstImage (s7_made (s7_wrong (s7_number (s7_kind (s7_from (s7_at (s7_thrown o0 0) (q7_at r1.2)) (q7_from r1.2)) (q7_kind r1.2)) (q7_number r1.2)) (q7_wrong r1.2)) (q7_made r1.2)) x3 1 r4 hr5) 0 rfl (ci := 7) rfl rfl myX7_fails 63 mw_5_181 rfl [0] [1, 2, 3] [3, 0, 1, 2] (wr := [(a0_buffer, .inl (zI Z, 300, .inl (q7_buffer o0))), (a0_now, .inl (zI Z, 12, .inl (q7_now o0))), (a0_made, .inl (zI Z, 12, .inl (q7_made r1.2)))]) rfl rfl (by decide) (by decide) (by decide) [(a0, .inr (7, [.int (q7_thrown r4.2), .ref a0_buffer, .int (q7_length o0), .int (q7_at r1.2), .int (q7_from r1.2), .int (q7_kind r1.2), .int (q7_number r1.2), .int (q7_wrong r1.2), .ref a0_now, .ref a0_made, .ref a0_history, .ref a0_saved, .int (q7_entries o0), .int (q7_isSaved o0), .ref a0_closed, .ref a0_faces, .ref a0_rankOf, .ref a0_placeOf, .int (q7_faceMany o0), .int (q7_isLaid o0), .ref a0_counted, .ref a0_steps, .ref a0_onto, .ref a0_goes, .int (q7_found o0), .int (q7_images o0), .ref a0_firstImage, .int (q7_gathered o0)])), (a0_buffer, .inl (zI Z, 300, .inl (q7_buffer o0))), (a0_now, .inl (zI Z, 12, .inl (q7_now o0))), (a0_made, .inl (zI Z, 12, .inl (q7_made r1.2)))] rfl (by decide) (Nat.le_of_ble_eq_true rfl) (by rw [hR]; exact Nat.le_of_ble_eq_true rfl) (by rw [hR]; exact Nat.le_of_ble_eq_true rfl) ⟨by rw [hR]; exact Nat.le_of_ble_eq_true rfl, by rw [hR]; exact Nat.le_of_ble_eq_true rfl⟩ rfl dX7_load_19 ?_
    refine g_if_eq C 27 dX7_load_22 (by decide) (fun c6 => ?_) (fun c6 => ?_)
    · replace h := it_t c6 h
      refine g_aload_n C dX7_load_27 rfl 0 rfl ?_
      obtain ⟨r7, hr8, h⟩ := bd_of h
      refine g_callVv C (kX7_takeMade l Z a0 a0_buffer a0_now a0_made a0_history a0_saved a0_closed a0_faces a0_rankOf a0_placeOf a0_counted a0_steps a0_onto a0_goes a0_firstImage (s7_made (s7_wrong (s7_number (s7_kind (s7_from (s7_at (s7_thrown o0 (q7_thrown r4.2)) (q7_at r1.2)) (q7_from r1.2)) (q7_kind r1.2)) (q7_number r1.2)) (q7_wrong r1.2)) (q7_made r1.2)) r7 hr8) 0 rfl (ci := 7) rfl rfl myX7_takeMade 187 mw_6_52 rfl [0, 2, 3] [1] [1, 0, 2, 3] (wr := [(a0_buffer, .inl (zI Z, 300, .inl (q7_buffer o0)))]) rfl rfl (by decide) (by decide) (by decide) [(a0, .inr (7, [.int (q7_thrown r4.2), .ref a0_buffer, .int (q7_length o0), .int (q7_at r1.2), .int (q7_from r1.2), .int (q7_kind r1.2), .int (q7_number r1.2), .int (q7_wrong r1.2), .ref a0_now, .ref a0_made, .ref a0_history, .ref a0_saved, .int (q7_entries o0), .int (q7_isSaved o0), .ref a0_closed, .ref a0_faces, .ref a0_rankOf, .ref a0_placeOf, .int (q7_faceMany o0), .int (q7_isLaid r7), .ref a0_counted, .ref a0_steps, .ref a0_onto, .ref a0_goes, .int (q7_found o0), .int (q7_images o0), .ref a0_firstImage, .int (q7_gathered o0)])), (a0_buffer, .inl (zI Z, 300, .inl (q7_buffer o0))), (a0_now, .inl (zI Z, 12, .inl (q7_now r7))), (a0_made, .inl (zI Z, 12, .inl (q7_made r1.2)))] rfl (by decide) (Nat.le_of_ble_eq_true rfl) (by rw [hR]; exact Nat.le_of_ble_eq_true rfl) (by rw [hR]; exact Nat.le_of_ble_eq_true rfl) ⟨by rw [hR]; exact Nat.le_of_ble_eq_true rfl, by rw [hR]; exact Nat.le_of_ble_eq_true rfl⟩ rfl dX7_load_28 ?_
      refine g_aload_n C dX7_load_31 rfl 0 rfl ?_
      refine g_iconst C 0 dX7_load_32 (by decide) ?_
      refine g_put C 7 190 gin7 tyX7 tyX7_ok nmX7 0 rfl rfl 12 (by decide) mw_5_97 rfl rfl (ty := .int) (by decide +kernel) rfl rfl (Nat.le_of_ble_eq_true rfl) [(a0, .inr (7, [.int (q7_thrown r4.2), .ref a0_buffer, .int (q7_length o0), .int (q7_at r1.2), .int (q7_from r1.2), .int (q7_kind r1.2), .int (q7_number r1.2), .int (q7_wrong r1.2), .ref a0_now, .ref a0_made, .ref a0_history, .ref a0_saved, .int 0, .int (q7_isSaved o0), .ref a0_closed, .ref a0_faces, .ref a0_rankOf, .ref a0_placeOf, .int (q7_faceMany o0), .int (q7_isLaid r7), .ref a0_counted, .ref a0_steps, .ref a0_onto, .ref a0_goes, .int (q7_found o0), .int (q7_images o0), .ref a0_firstImage, .int (q7_gathered o0)])), (a0_buffer, .inl (zI Z, 300, .inl (q7_buffer o0))), (a0_now, .inl (zI Z, 12, .inl (q7_now r7))), (a0_made, .inl (zI Z, 12, .inl (q7_made r1.2)))] rfl dX7_load_33 ?_
      refine g_aload_n C dX7_load_36 rfl 0 rfl ?_
      refine g_iconst C 0 dX7_load_37 (by decide) ?_
      refine g_put C 7 193 gin7 tyX7 tyX7_ok nmX7 0 rfl rfl 13 (by decide) mw_5_98 rfl rfl (ty := .boolean) (by decide +kernel) rfl rfl (Nat.le_of_ble_eq_true rfl) [(a0, .inr (7, [.int (q7_thrown r4.2), .ref a0_buffer, .int (q7_length o0), .int (q7_at r1.2), .int (q7_from r1.2), .int (q7_kind r1.2), .int (q7_number r1.2), .int (q7_wrong r1.2), .ref a0_now, .ref a0_made, .ref a0_history, .ref a0_saved, .int 0, .int 0, .ref a0_closed, .ref a0_faces, .ref a0_rankOf, .ref a0_placeOf, .int (q7_faceMany o0), .int (q7_isLaid r7), .ref a0_counted, .ref a0_steps, .ref a0_onto, .ref a0_goes, .int (q7_found o0), .int (q7_images o0), .ref a0_firstImage, .int (q7_gathered o0)])), (a0_buffer, .inl (zI Z, 300, .inl (q7_buffer o0))), (a0_now, .inl (zI Z, 12, .inl (q7_now r7))), (a0_made, .inl (zI Z, 12, .inl (q7_made r1.2)))] rfl dX7_load_38 ?_
      refine g_aload_n C dX7_load_41 rfl 0 rfl ?_
      refine g_iconst C 0 dX7_load_42 (by decide) ?_
      refine g_put C 7 60 gin7 tyX7 tyX7_ok nmX7 0 rfl rfl 2 (by decide) mw_5_87 rfl rfl (ty := .int) (by decide +kernel) rfl rfl (Nat.le_of_ble_eq_true rfl) [(a0, .inr (7, [.int (q7_thrown r4.2), .ref a0_buffer, .int 0, .int (q7_at r1.2), .int (q7_from r1.2), .int (q7_kind r1.2), .int (q7_number r1.2), .int (q7_wrong r1.2), .ref a0_now, .ref a0_made, .ref a0_history, .ref a0_saved, .int 0, .int 0, .ref a0_closed, .ref a0_faces, .ref a0_rankOf, .ref a0_placeOf, .int (q7_faceMany o0), .int (q7_isLaid r7), .ref a0_counted, .ref a0_steps, .ref a0_onto, .ref a0_goes, .int (q7_found o0), .int (q7_images o0), .ref a0_firstImage, .int (q7_gathered o0)])), (a0_buffer, .inl (zI Z, 300, .inl (q7_buffer o0))), (a0_now, .inl (zI Z, 12, .inl (q7_now r7))), (a0_made, .inl (zI Z, 12, .inl (q7_made r1.2)))] rfl dX7_load_43 ?_
      refine g_aload_n C dX7_load_46 rfl 0 rfl ?_
      refine g_get C 7 13 gin7 0 rfl rfl 8 (by decide) mw_5_93 rfl rfl dX7_load_47 ?_
      refine g_iconst C 1 dX7_load_50 (by decide) ?_
      refine g_iald C 2 rfl (by decide) dX7_load_51 ?_
      obtain rfl := Option.some.inj h
      subst hQ
      exact gx_iret C D rfl rfl hr (Nat.le_of_ble_eq_true rfl) (Nat.le_of_ble_eq_true rfl) dX7_load_52 [0, 1, 2, 3] rfl (by decide)
    · replace h := it_f c6 h
      refine g_iconst C 0 dX7_load_25 (by decide) ?_
      obtain rfl := Option.some.inj h
      subst hQ
      exact gx_iret C D rfl rfl hr (Nat.le_of_ble_eq_true rfl) (Nat.le_of_ble_eq_true rfl) dX7_load_26 [0, 1, 2, 3] rfl (by decide)
  refine g_if_ge C 17 dX7_load_10 (by decide) (fun c9 => ?_) (fun c9 => ?_)
  · replace h := it_t c9 h
    refine g_iconst C 0 dX7_load_17 (by decide) ?_
    exact hj18 0 h
  · replace h := it_f c9 h
    refine g_iconst C 1 dX7_load_13 (by decide) ?_
    refine g_goto C 18 dX7_load_14 (by decide) ?_
    exact hj18 1 h

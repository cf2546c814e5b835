def fX7_isPoint (o0 : OX7) (p1 : Int32) : Option (Int32) :=
  (fX7_in p1 0 (((q7_now o0) (ix 0)) - 1)).bind fun r1 =>
  (ck (is01 r1) (some r1))
theorem myX7_isPoint : MYv yX7_isPoint cX7_isPoint 2 (some .boolean) 1 := ⟨mw_6_78, ms_52, mw_6_79, mw_1_9, ⟨by decide +kernel, by decide +kernel⟩, by decide +kernel⟩
set_option maxRecDepth 100000 in
set_option maxHeartbeats 4000000 in
theorem kX7_isPoint (l : Launch) (Z : GZ) (a0 a0_buffer a0_now a0_made a0_history a0_saved a0_closed a0_faces a0_rankOf a0_placeOf a0_counted a0_steps a0_onto a0_goes a0_firstImage : Nat) (o0 : OX7) (p1 : Int32) (res : Int32) (h : fX7_isPoint o0 p1 = some res) : MI l Z yX7_isPoint cX7_isPoint 2 .boolean 1 22 [.ref a0, .int p1] [(a0, .inr (7, [.int (q7_thrown o0), .ref a0_buffer, .int (q7_length o0), .int (q7_at o0), .int (q7_from o0), .int (q7_kind o0), .int (q7_number o0), .int (q7_wrong o0), .ref a0_now, .ref a0_made, .ref a0_history, .ref a0_saved, .int (q7_entries o0), .int (q7_isSaved o0), .ref a0_closed, .ref a0_faces, .ref a0_rankOf, .ref a0_placeOf, .int (q7_faceMany o0), .int (q7_isLaid o0), .ref a0_counted, .ref a0_steps, .ref a0_onto, .ref a0_goes, .int (q7_found o0), .int (q7_images o0), .ref a0_firstImage, .int (q7_gathered o0)])), (a0_now, .inl (zI Z, 12, .inl (q7_now o0)))] res [(a0, .inr (7, [.int (q7_thrown o0), .ref a0_buffer, .int (q7_length o0), .int (q7_at o0), .int (q7_from o0), .int (q7_kind o0), .int (q7_number o0), .int (q7_wrong o0), .ref a0_now, .ref a0_made, .ref a0_history, .ref a0_saved, .int (q7_entries o0), .int (q7_isSaved o0), .ref a0_closed, .ref a0_faces, .ref a0_rankOf, .ref a0_placeOf, .int (q7_faceMany o0), .int (q7_isLaid o0), .ref a0_counted, .ref a0_steps, .ref a0_onto, .ref a0_goes, .int (q7_found o0), .int (q7_images o0), .ref a0_firstImage, .int (q7_gathered o0)])), (a0_now, .inl (zI Z, 12, .inl (q7_now o0)))] := by
  refine MI_of (by decide +kernel) (Nat.le_of_ble_eq_true rfl) (fun {p e s m args below meth c} A R hR Q hQ C hr hlk => ?_)
  unfold fX7_isPoint at h
  refine g_lv [0, 1] [(0, .ref a0), (1, .int p1)] rfl ?_
  refine g_iload_n C dX7_isPoint_0 rfl 1 rfl ?_
  refine g_iconst C 0 dX7_isPoint_1 (by decide) ?_
  refine g_aload_n C dX7_isPoint_2 rfl 0 rfl ?_
  refine g_get C 7 13 gin7 0 rfl rfl 8 (by decide) mw_5_93 rfl rfl dX7_isPoint_3 ?_
  refine g_iconst C 0 dX7_isPoint_6 (by decide) ?_
  refine g_iald C 1 rfl (by decide) dX7_isPoint_7 ?_
  refine g_iconst C 1 dX7_isPoint_8 (by decide) ?_
  refine g_isub C dX7_isPoint_9 ?_
  obtain ⟨r1, hr2, h⟩ := bd_of h
  refine g_callSi C (kX7_in l Z p1 0 (((q7_now o0) (ix 0)) - 1) r1 hr2) myX7_in 67 mw_5_189 rfl [] [0, 1] [0, 1] (wr := [(a0, .inr (7, [.int (q7_thrown o0), .ref a0_buffer, .int (q7_length o0), .int (q7_at o0), .int (q7_from o0), .int (q7_kind o0), .int (q7_number o0), .int (q7_wrong o0), .ref a0_now, .ref a0_made, .ref a0_history, .ref a0_saved, .int (q7_entries o0), .int (q7_isSaved o0), .ref a0_closed, .ref a0_faces, .ref a0_rankOf, .ref a0_placeOf, .int (q7_faceMany o0), .int (q7_isLaid o0), .ref a0_counted, .ref a0_steps, .ref a0_onto, .ref a0_goes, .int (q7_found o0), .int (q7_images o0), .ref a0_firstImage, .int (q7_gathered o0)])), (a0_now, .inl (zI Z, 12, .inl (q7_now o0)))]) rfl rfl (by decide) (by decide) (by decide) [(a0, .inr (7, [.int (q7_thrown o0), .ref a0_buffer, .int (q7_length o0), .int (q7_at o0), .int (q7_from o0), .int (q7_kind o0), .int (q7_number o0), .int (q7_wrong o0), .ref a0_now, .ref a0_made, .ref a0_history, .ref a0_saved, .int (q7_entries o0), .int (q7_isSaved o0), .ref a0_closed, .ref a0_faces, .ref a0_rankOf, .ref a0_placeOf, .int (q7_faceMany o0), .int (q7_isLaid o0), .ref a0_counted, .ref a0_steps, .ref a0_onto, .ref a0_goes, .int (q7_found o0), .int (q7_images o0), .ref a0_firstImage, .int (q7_gathered o0)])), (a0_now, .inl (zI Z, 12, .inl (q7_now o0)))] rfl (by decide) (Nat.le_of_ble_eq_true rfl) (by rw [hR]; exact Nat.le_of_ble_eq_true rfl) (by rw [hR]; exact Nat.le_of_ble_eq_true rfl) ⟨by rw [hR]; exact Nat.le_of_ble_eq_true rfl, by rw [hR]; exact Nat.le_of_ble_eq_true rfl⟩ rfl dX7_isPoint_10 ?_
  obtain ⟨hb, h⟩ := ck_of h
  obtain rfl := Option.some.inj h
  subst hQ
  exact g_zret C rfl (is01_of hb) hr hlk dX7_isPoint_13 [0, 1] rfl (by decide)
def fX7_isFacet (o0 : OX7) (p1 : Int32) : Option (Int32) :=
  (fX7_in p1 0 (((q7_now o0) (ix 1)) - 1)).bind fun r1 =>
  (ck (is01 r1) (some r1))
theorem myX7_isFacet : MYv yX7_isFacet cX7_isFacet 2 (some .boolean) 1 := ⟨mw_6_82, ms_53, mw_6_83, mw_1_9, ⟨by decide +kernel, by decide +kernel⟩, by decide +kernel⟩
set_option maxRecDepth 100000 in
set_option maxHeartbeats 4000000 in
theorem kX7_isFacet (l : Launch) (Z : GZ) (a0 a0_buffer a0_now a0_made a0_history a0_saved a0_closed a0_faces a0_rankOf a0_placeOf a0_counted a0_steps a0_onto a0_goes a0_firstImage : Nat) (o0 : OX7) (p1 : Int32) (res : Int32) (h : fX7_isFacet o0 p1 = some res) : MI l Z yX7_isFacet cX7_isFacet 2 .boolean 1 22 [.ref a0, .int p1] [(a0, .inr (7, [.int (q7_thrown o0), .ref a0_buffer, .int (q7_length o0), .int (q7_at o0), .int (q7_from o0), .int (q7_kind o0), .int (q7_number o0), .int (q7_wrong o0), .ref a0_now, .ref a0_made, .ref a0_history, .ref a0_saved, .int (q7_entries o0), .int (q7_isSaved o0), .ref a0_closed, .ref a0_faces, .ref a0_rankOf, .ref a0_placeOf, .int (q7_faceMany o0), .int (q7_isLaid o0), .ref a0_counted, .ref a0_steps, .ref a0_onto, .ref a0_goes, .int (q7_found o0), .int (q7_images o0), .ref a0_firstImage, .int (q7_gathered o0)])), (a0_now, .inl (zI Z, 12, .inl (q7_now o0)))] res [(a0, .inr (7, [.int (q7_thrown o0), .ref a0_buffer, .int (q7_length o0), .int (q7_at o0), .int (q7_from o0), .int (q7_kind o0), .int (q7_number o0), .int (q7_wrong o0), .ref a0_now, .ref a0_made, .ref a0_history, .ref a0_saved, .int (q7_entries o0), .int (q7_isSaved o0), .ref a0_closed, .ref a0_faces, .ref a0_rankOf, .ref a0_placeOf, .int (q7_faceMany o0), .int (q7_isLaid o0), .ref a0_counted, .ref a0_steps, .ref a0_onto, .ref a0_goes, .int (q7_found o0), .int (q7_images o0), .ref a0_firstImage, .int (q7_gathered o0)])), (a0_now, .inl (zI Z, 12, .inl (q7_now o0)))] := by
  refine MI_of (by decide +kernel) (Nat.le_of_ble_eq_true rfl) (fun {p e s m args below meth c} A R hR Q hQ C hr hlk => ?_)
  unfold fX7_isFacet at h
  refine g_lv [0, 1] [(0, .ref a0), (1, .int p1)] rfl ?_
  refine g_iload_n C dX7_isFacet_0 rfl 1 rfl ?_
  refine g_iconst C 0 dX7_isFacet_1 (by decide) ?_
  refine g_aload_n C dX7_isFacet_2 rfl 0 rfl ?_
  refine g_get C 7 13 gin7 0 rfl rfl 8 (by decide) mw_5_93 rfl rfl dX7_isFacet_3 ?_
  refine g_iconst C 1 dX7_isFacet_6 (by decide) ?_
  refine g_iald C 1 rfl (by decide) dX7_isFacet_7 ?_
  refine g_iconst C 1 dX7_isFacet_8 (by decide) ?_
  refine g_isub C dX7_isFacet_9 ?_
  obtain ⟨r1, hr2, h⟩ := bd_of h
  refine g_callSi C (kX7_in l Z p1 0 (((q7_now o0) (ix 1)) - 1) r1 hr2) myX7_in 67 mw_5_189 rfl [] [0, 1] [0, 1] (wr := [(a0, .inr (7, [.int (q7_thrown o0), .ref a0_buffer, .int (q7_length o0), .int (q7_at o0), .int (q7_from o0), .int (q7_kind o0), .int (q7_number o0), .int (q7_wrong o0), .ref a0_now, .ref a0_made, .ref a0_history, .ref a0_saved, .int (q7_entries o0), .int (q7_isSaved o0), .ref a0_closed, .ref a0_faces, .ref a0_rankOf, .ref a0_placeOf, .int (q7_faceMany o0), .int (q7_isLaid o0), .ref a0_counted, .ref a0_steps, .ref a0_onto, .ref a0_goes, .int (q7_found o0), .int (q7_images o0), .ref a0_firstImage, .int (q7_gathered o0)])), (a0_now, .inl (zI Z, 12, .inl (q7_now o0)))]) rfl rfl (by decide) (by decide) (by decide) [(a0, .inr (7, [.int (q7_thrown o0), .ref a0_buffer, .int (q7_length o0), .int (q7_at o0), .int (q7_from o0), .int (q7_kind o0), .int (q7_number o0), .int (q7_wrong o0), .ref a0_now, .ref a0_made, .ref a0_history, .ref a0_saved, .int (q7_entries o0), .int (q7_isSaved o0), .ref a0_closed, .ref a0_faces, .ref a0_rankOf, .ref a0_placeOf, .int (q7_faceMany o0), .int (q7_isLaid o0), .ref a0_counted, .ref a0_steps, .ref a0_onto, .ref a0_goes, .int (q7_found o0), .int (q7_images o0), .ref a0_firstImage, .int (q7_gathered o0)])), (a0_now, .inl (zI Z, 12, .inl (q7_now o0)))] rfl (by decide) (Nat.le_of_ble_eq_true rfl) (by rw [hR]; exact Nat.le_of_ble_eq_true rfl) (by rw [hR]; exact Nat.le_of_ble_eq_true rfl) ⟨by rw [hR]; exact Nat.le_of_ble_eq_true rfl, by rw [hR]; exact Nat.le_of_ble_eq_true rfl⟩ rfl dX7_isFacet_10 ?_
  obtain ⟨hb, h⟩ := ck_of h
  obtain rfl := Option.some.inj h
  subst hQ
  exact g_zret C rfl (is01_of hb) hr hlk dX7_isFacet_13 [0, 1] rfl (by decide)
def fX7_isSet (o0 : OX7) (p1 : Int32) : Option (Int32) :=
  (fX7_all o0).bind fun r1 =>
  ((fX7_in p1 0 r1).bind fun r3 =>
  (ck (is01 r3) (some r3)))
theorem myX7_isSet : MYv yX7_isSet cX7_isSet 2 (some .boolean) 1 := ⟨mw_6_94, ms_55, mw_6_95, mw_1_9, ⟨by decide +kernel, by decide +kernel⟩, by decide +kernel⟩
set_option maxRecDepth 100000 in
set_option maxHeartbeats 4000000 in
theorem kX7_isSet (l : Launch) (Z : GZ) (a0 a0_buffer a0_now a0_made a0_history a0_saved a0_closed a0_faces a0_rankOf a0_placeOf a0_counted a0_steps a0_onto a0_goes a0_firstImage : Nat) (o0 : OX7) (p1 : Int32) (res : Int32) (h : fX7_isSet o0 p1 = some res) : MI l Z yX7_isSet cX7_isSet 2 .boolean 2 40 [.ref a0, .int p1] [(a0, .inr (7, [.int (q7_thrown o0), .ref a0_buffer, .int (q7_length o0), .int (q7_at o0), .int (q7_from o0), .int (q7_kind o0), .int (q7_number o0), .int (q7_wrong o0), .ref a0_now, .ref a0_made, .ref a0_history, .ref a0_saved, .int (q7_entries o0), .int (q7_isSaved o0), .ref a0_closed, .ref a0_faces, .ref a0_rankOf, .ref a0_placeOf, .int (q7_faceMany o0), .int (q7_isLaid o0), .ref a0_counted, .ref a0_steps, .ref a0_onto, .ref a0_goes, .int (q7_found o0), .int (q7_images o0), .ref a0_firstImage, .int (q7_gathered o0)])), (a0_now, .inl (zI Z, 12, .inl (q7_now o0)))] res [(a0, .inr (7, [.int (q7_thrown o0), .ref a0_buffer, .int (q7_length o0), .int (q7_at o0), .int (q7_from o0), .int (q7_kind o0), .int (q7_number o0), .int (q7_wrong o0), .ref a0_now, .ref a0_made, .ref a0_history, .ref a0_saved, .int (q7_entries o0), .int (q7_isSaved o0), .ref a0_closed, .ref a0_faces, .ref a0_rankOf, .ref a0_placeOf, .int (q7_faceMany o0), .int (q7_isLaid o0), .ref a0_counted, .ref a0_steps, .ref a0_onto, .ref a0_goes, .int (q7_found o0), .int (q7_images o0), .ref a0_firstImage, .int (q7_gathered o0)])), (a0_now, .inl (zI Z, 12, .inl (q7_now o0)))] := by
  refine MI_of (by decide +kernel) (Nat.le_of_ble_eq_true rfl) (fun {p e s m args below meth c} A R hR Q hQ C hr hlk => ?_)
  unfold fX7_isSet at h
  refine g_lv [0, 1] [(0, .ref a0), (1, .int p1)] rfl ?_
  refine g_iload_n C dX7_isSet_0 rfl 1 rfl ?_
  refine g_iconst C 0 dX7_isSet_1 (by decide) ?_
  refine g_aload_n C dX7_isSet_2 rfl 0 rfl ?_
  obtain ⟨r1, hr2, h⟩ := bd_of h
  refine g_callVi C (kX7_all l Z a0 a0_buffer a0_now a0_made a0_history a0_saved a0_closed a0_faces a0_rankOf a0_placeOf a0_counted a0_steps a0_onto a0_goes a0_firstImage o0 r1 hr2) 0 rfl (ci := 7) rfl rfl myX7_all 196 mw_6_96 rfl [0, 1] [] [0, 1] (wr := []) rfl rfl (by decide) (by decide) (by decide) [(a0, .inr (7, [.int (q7_thrown o0), .ref a0_buffer, .int (q7_length o0), .int (q7_at o0), .int (q7_from o0), .int (q7_kind o0), .int (q7_number o0), .int (q7_wrong o0), .ref a0_now, .ref a0_made, .ref a0_history, .ref a0_saved, .int (q7_entries o0), .int (q7_isSaved o0), .ref a0_closed, .ref a0_faces, .ref a0_rankOf, .ref a0_placeOf, .int (q7_faceMany o0), .int (q7_isLaid o0), .ref a0_counted, .ref a0_steps, .ref a0_onto, .ref a0_goes, .int (q7_found o0), .int (q7_images o0), .ref a0_firstImage, .int (q7_gathered o0)])), (a0_now, .inl (zI Z, 12, .inl (q7_now o0)))] rfl (by decide) (Nat.le_of_ble_eq_true rfl) (by rw [hR]; exact Nat.le_of_ble_eq_true rfl) (by rw [hR]; exact Nat.le_of_ble_eq_true rfl) ⟨by rw [hR]; exact Nat.le_of_ble_eq_true rfl, by rw [hR]; exact Nat.le_of_ble_eq_true rfl⟩ rfl dX7_isSet_3 ?_
  obtain ⟨r3, hr4, h⟩ := bd_of h
  refine g_callSi C (kX7_in l Z p1 0 r1 r3 hr4) myX7_in 67 mw_5_189 rfl [] [0, 1] [0, 1] (wr := [(a0, .inr (7, [.int (q7_thrown o0), .ref a0_buffer, .int (q7_length o0), .int (q7_at o0), .int (q7_from o0), .int (q7_kind o0), .int (q7_number o0), .int (q7_wrong o0), .ref a0_now, .ref a0_made, .ref a0_history, .ref a0_saved, .int (q7_entries o0), .int (q7_isSaved o0), .ref a0_closed, .ref a0_faces, .ref a0_rankOf, .ref a0_placeOf, .int (q7_faceMany o0), .int (q7_isLaid o0), .ref a0_counted, .ref a0_steps, .ref a0_onto, .ref a0_goes, .int (q7_found o0), .int (q7_images o0), .ref a0_firstImage, .int (q7_gathered o0)])), (a0_now, .inl (zI Z, 12, .inl (q7_now o0)))]) rfl rfl (by decide) (by decide) (by decide) [(a0, .inr (7, [.int (q7_thrown o0), .ref a0_buffer, .int (q7_length o0), .int (q7_at o0), .int (q7_from o0), .int (q7_kind o0), .int (q7_number o0), .int (q7_wrong o0), .ref a0_now, .ref a0_made, .ref a0_history, .ref a0_saved, .int (q7_entries o0), .int (q7_isSaved o0), .ref a0_closed, .ref a0_faces, .ref a0_rankOf, .ref a0_placeOf, .int (q7_faceMany o0), .int (q7_isLaid o0), .ref a0_counted, .ref a0_steps, .ref a0_onto, .ref a0_goes, .int (q7_found o0), .int (q7_images o0), .ref a0_firstImage, .int (q7_gathered o0)])), (a0_now, .inl (zI Z, 12, .inl (q7_now o0)))] rfl (by decide) (Nat.le_of_ble_eq_true rfl) (by rw [hR]; exact Nat.le_of_ble_eq_true rfl) (by rw [hR]; exact Nat.le_of_ble_eq_true rfl) ⟨by rw [hR]; exact Nat.le_of_ble_eq_true rfl, by rw [hR]; exact Nat.le_of_ble_eq_true rfl⟩ rfl dX7_isSet_6 ?_
  obtain ⟨hb, h⟩ := ck_of h
  obtain rfl := Option.some.inj h
  subst hQ
  exact g_zret C rfl (is01_of hb) hr hlk dX7_isSet_9 [0, 1] rfl (by decide)
def fX7_faceManyNow (o0 : OX7) : Option (Int32 × OX7) :=
  (fX7_lay o0).bind fun r1 =>
  (some ((q7_faceMany r1), (s7_isLaid (s7_faceMany (s7_placeOf (s7_rankOf (s7_faces (s7_closed o0 (q7_closed r1)) (q7_faces r1)) (q7_rankOf r1)) (q7_placeOf r1)) (q7_faceMany r1)) (q7_isLaid r1))))
theorem myX7_faceManyNow : MYv yX7_faceManyNow cX7_faceManyNow 1 (some .int) 0 := ⟨mw_6_118, ms_59, mw_6_119, mw_1_9, ⟨by decide +kernel, by decide +kernel⟩, by decide +kernel⟩
set_option maxRecDepth 100000 in
set_option maxHeartbeats 4000000 in
theorem kX7_faceManyNow (l : Launch) (Z : GZ) (a0 a0_buffer a0_now a0_made a0_history a0_saved a0_closed a0_faces a0_rankOf a0_placeOf a0_counted a0_steps a0_onto a0_goes a0_firstImage : Nat) (o0 : OX7) (res : Int32 × OX7) (h : fX7_faceManyNow o0 = some res) : MI l Z yX7_faceManyNow cX7_faceManyNow 1 .int 4 89 [.ref a0] [(a0, .inr (7, [.int (q7_thrown o0), .ref a0_buffer, .int (q7_length o0), .int (q7_at o0), .int (q7_from o0), .int (q7_kind o0), .int (q7_number o0), .int (q7_wrong o0), .ref a0_now, .ref a0_made, .ref a0_history, .ref a0_saved, .int (q7_entries o0), .int (q7_isSaved o0), .ref a0_closed, .ref a0_faces, .ref a0_rankOf, .ref a0_placeOf, .int (q7_faceMany o0), .int (q7_isLaid o0), .ref a0_counted, .ref a0_steps, .ref a0_onto, .ref a0_goes, .int (q7_found o0), .int (q7_images o0), .ref a0_firstImage, .int (q7_gathered o0)])), (a0_now, .inl (zI Z, 12, .inl (q7_now o0))), (a0_closed, .inl (zI Z, 256, .inl (q7_closed o0))), (a0_faces, .inl (zI Z, 256, .inl (q7_faces o0))), (a0_rankOf, .inl (zI Z, 256, .inl (q7_rankOf o0))), (a0_placeOf, .inl (zI Z, 256, .inl (q7_placeOf o0)))] res.1 [(a0, .inr (7, [.int (q7_thrown o0), .ref a0_buffer, .int (q7_length o0), .int (q7_at o0), .int (q7_from o0), .int (q7_kind o0), .int (q7_number o0), .int (q7_wrong o0), .ref a0_now, .ref a0_made, .ref a0_history, .ref a0_saved, .int (q7_entries o0), .int (q7_isSaved o0), .ref a0_closed, .ref a0_faces, .ref a0_rankOf, .ref a0_placeOf, .int (q7_faceMany res.2), .int (q7_isLaid res.2), .ref a0_counted, .ref a0_steps, .ref a0_onto, .ref a0_goes, .int (q7_found o0), .int (q7_images o0), .ref a0_firstImage, .int (q7_gathered o0)])), (a0_now, .inl (zI Z, 12, .inl (q7_now o0))), (a0_closed, .inl (zI Z, 256, .inl (q7_closed res.2))), (a0_faces, .inl (zI Z, 256, .inl (q7_faces res.2))), (a0_rankOf, .inl (zI Z, 256, .inl (q7_rankOf res.2))), (a0_placeOf, .inl (zI Z, 256, .inl (q7_placeOf res.2)))] := by
  refine MI_of (by decide +kernel) (Nat.le_of_ble_eq_true rfl) (fun {p e s m args below meth c} A R hR Q hQ C hr hlk => ?_)
  unfold fX7_faceManyNow at h
  refine g_lv [0] [(0, .ref a0)] rfl ?_
  refine g_aload_n C dX7_faceManyNow_0 rfl 0 rfl ?_
  obtain ⟨r1, hr2, h⟩ := bd_of h
  refine g_callVv C (kX7_lay l Z a0 a0_buffer a0_now a0_made a0_history a0_saved a0_closed a0_faces a0_rankOf a0_placeOf a0_counted a0_steps a0_onto a0_goes a0_firstImage o0 r1 hr2) 0 rfl (ci := 7) rfl rfl myX7_lay 217 mw_6_120 rfl [0, 1, 2, 3, 4, 5] [] [0, 1, 2, 3, 4, 5] (wr := []) rfl rfl (by decide) (by decide) (by decide) [(a0, .inr (7, [.int (q7_thrown o0), .ref a0_buffer, .int (q7_length o0), .int (q7_at o0), .int (q7_from o0), .int (q7_kind o0), .int (q7_number o0), .int (q7_wrong o0), .ref a0_now, .ref a0_made, .ref a0_history, .ref a0_saved, .int (q7_entries o0), .int (q7_isSaved o0), .ref a0_closed, .ref a0_faces, .ref a0_rankOf, .ref a0_placeOf, .int (q7_faceMany r1), .int (q7_isLaid r1), .ref a0_counted, .ref a0_steps, .ref a0_onto, .ref a0_goes, .int (q7_found o0), .int (q7_images o0), .ref a0_firstImage, .int (q7_gathered o0)])), (a0_now, .inl (zI Z, 12, .inl (q7_now o0))), (a0_closed, .inl (zI Z, 256, .inl (q7_closed r1))), (a0_faces, .inl (zI Z, 256, .inl (q7_faces r1))), (a0_rankOf, .inl (zI Z, 256, .inl (q7_rankOf r1))), (a0_placeOf, .inl (zI Z, 256, .inl (q7_placeOf r1)))] rfl (by decide) (Nat.le_of_ble_eq_true rfl) (by rw [hR]; exact Nat.le_of_ble_eq_true rfl) (by rw [hR]; exact Nat.le_of_ble_eq_true rfl) ⟨by rw [hR]; exact Nat.le_of_ble_eq_true rfl, by rw [hR]; exact Nat.le_of_ble_eq_true rfl⟩ rfl dX7_faceManyNow_1 ?_
  refine g_aload_n C dX7_faceManyNow_4 rfl 0 rfl ?_
  refine g_get C 7 214 gin7 0 rfl rfl 18 (by decide) mw_5_103 rfl rfl dX7_faceManyNow_5 ?_
  obtain rfl := Option.some.inj h
  subst hQ
  exact g_iret C rfl hr hlk dX7_faceManyNow_8 [0, 1, 2, 3, 4, 5] rfl (by decide)
def fX7_setIncident_J27 (o0 : OX7) (p1 : Int32) (p2 : Int32) (p3 : Int32) (x3 : Int32) : Option (Int32 × OX7) :=
  (fX7_fails (s7_thrown o0 0) x3 1).bind fun r4 =>
  (if r4.1 = 0 then ((fX7_record (s7_thrown o0 (q7_thrown r4.2))).bind fun r7 =>
  (ck (okI (2 + p2) 12) ((fX7_has ((q7_now o0) (ix (2 + p2))) p1).bind fun r10 =>
  (if p3 = 0 then (ck (okI (2 + p2) 12) (ck (okI (2 + p2) 12) (ck (is01 r10) (some (r10, (s7_isLaid (s7_entries (s7_history (s7_now (s7_thrown o0 (q7_thrown r4.2)) (upd (q7_now o0) (ix (2 + p2)) (((q7_now o0) (ix (2 + p2))) &&& ((jshl 1 p1) ^^^ (-1))))) (q7_history r7)) (q7_entries r7)) (q7_isLaid r7)))))))
  else (ck (okI (2 + p2) 12) (ck (okI (2 + p2) 12) (ck (is01 r10) (some (r10, (s7_isLaid (s7_entries (s7_history (s7_now (s7_thrown o0 (q7_thrown r4.2)) (upd (q7_now o0) (ix (2 + p2)) (((q7_now o0) (ix (2 + p2))) ||| (jshl 1 p1)))) (q7_history r7)) (q7_entries r7)) (q7_isLaid r7)))))))))))
  else (some (0, (s7_thrown o0 (q7_thrown r4.2)))))
def fX7_setIncident_J26 (o0 : OX7) (p1 : Int32) (p2 : Int32) (p3 : Int32) : Option (Int32 × OX7) :=
  fX7_setIncident_J27 o0 p1 p2 p3 0
def fX7_setIncident (o0 : OX7) (p1 : Int32) (p2 : Int32) (p3 : Int32) : Option (Int32 × OX7) :=
  (fX7_isPoint (s7_thrown o0 0) p1).bind fun r1 =>
  (if r1 = 0 then (fX7_setIncident_J26 o0 p1 p2 p3)
  else ((fX7_isFacet (s7_thrown o0 0) p2).bind fun r18 =>
  (if r18 = 0 then (fX7_setIncident_J26 o0 p1 p2 p3)
  else (fX7_setIncident_J27 o0 p1 p2 p3 1))))
theorem myX7_setIncident : MYv yX7_setIncident cX7_setIncident 5 (some .boolean) 3 := ⟨mw_6_73, mw_6_74, mw_6_75, mw_1_9, ⟨by decide +kernel, by decide +kernel⟩, by decide +kernel⟩
set_option maxRecDepth 100000 in
set_option maxHeartbeats 4000000 in
theorem kX7_setIncident (l : Launch) (Z : GZ) (a0 a0_buffer a0_now a0_made a0_history a0_saved a0_closed a0_faces a0_rankOf a0_placeOf a0_counted a0_steps a0_onto a0_goes a0_firstImage : Nat) (o0 : OX7) (p1 : Int32) (p2 : Int32) (p3 : Int32) (res : Int32 × OX7) (h : fX7_setIncident o0 p1 p2 p3 = some res) : MI l Z yX7_setIncident cX7_setIncident 5 .boolean 2 43 [.ref a0, .int p1, .int p2, .int p3] [(a0, .inr (7, [.int (q7_thrown o0), .ref a0_buffer, .int (q7_length o0), .int (q7_at o0), .int (q7_from o0), .int (q7_kind o0), .int (q7_number o0), .int (q7_wrong o0), .ref a0_now, .ref a0_made, .ref a0_history, .ref a0_saved, .int (q7_entries o0), .int (q7_isSaved o0), .ref a0_closed, .ref a0_faces, .ref a0_rankOf, .ref a0_placeOf, .int (q7_faceMany o0), .int (q7_isLaid o0), .ref a0_counted, .ref a0_steps, .ref a0_onto, .ref a0_goes, .int (q7_found o0), .int (q7_images o0), .ref a0_firstImage, .int (q7_gathered o0)])), (a0_now, .inl (zI Z, 12, .inl (q7_now o0))), (a0_history, .inl (zI Z, 96, .inl (q7_history o0)))] res.1 [(a0, .inr (7, [.int (q7_thrown res.2), .ref a0_buffer, .int (q7_length o0), .int (q7_at o0), .int (q7_from o0), .int (q7_kind o0), .int (q7_number o0), .int (q7_wrong o0), .ref a0_now, .ref a0_made, .ref a0_history, .ref a0_saved, .int (q7_entries res.2), .int (q7_isSaved o0), .ref a0_closed, .ref a0_faces, .ref a0_rankOf, .ref a0_placeOf, .int (q7_faceMany o0), .int (q7_isLaid res.2), .ref a0_counted, .ref a0_steps, .ref a0_onto, .ref a0_goes, .int (q7_found o0), .int (q7_images o0), .ref a0_firstImage, .int (q7_gathered o0)])), (a0_now, .inl (zI Z, 12, .inl (q7_now res.2))), (a0_history, .inl (zI Z, 96, .inl (q7_history res.2)))] := by
  refine MI_of (by decide +kernel) (Nat.le_of_ble_eq_true rfl) (fun {p e s m args below meth c} A R hR Q hQ C hr hlk => ?_)
  unfold fX7_setIncident at h
  refine g_lv [0, 1, 2, 3] [(0, .ref a0), (1, .int p1), (2, .int p2), (3, .int p3)] rfl ?_
  refine g_aload_n C dX7_setIncident_0 rfl 0 rfl ?_
  refine g_iconst C 0 dX7_setIncident_1 (by decide) ?_
  refine g_put C 7 52 gin7 tyX7 tyX7_ok nmX7 0 rfl rfl 0 (by decide) mw_5_85 rfl rfl (ty := .int) (by decide +kernel) rfl rfl (Nat.le_of_ble_eq_true rfl) [(a0, .inr (7, [.int 0, .ref a0_buffer, .int (q7_length o0), .int (q7_at o0), .int (q7_from o0), .int (q7_kind o0), .int (q7_number o0), .int (q7_wrong o0), .ref a0_now, .ref a0_made, .ref a0_history, .ref a0_saved, .int (q7_entries o0), .int (q7_isSaved o0), .ref a0_closed, .ref a0_faces, .ref a0_rankOf, .ref a0_placeOf, .int (q7_faceMany o0), .int (q7_isLaid o0), .ref a0_counted, .ref a0_steps, .ref a0_onto, .ref a0_goes, .int (q7_found o0), .int (q7_images o0), .ref a0_firstImage, .int (q7_gathered o0)])), (a0_now, .inl (zI Z, 12, .inl (q7_now o0))), (a0_history, .inl (zI Z, 96, .inl (q7_history o0)))] rfl dX7_setIncident_2 ?_
  refine g_aload_n C dX7_setIncident_5 rfl 0 rfl ?_
  refine g_aload_n C dX7_setIncident_6 rfl 0 rfl ?_
  refine g_iload_n C dX7_setIncident_7 rfl 1 rfl ?_
  obtain ⟨r1, hr2, h⟩ := bd_of h
  refine g_callVi C (kX7_isPoint l Z a0 a0_buffer a0_now a0_made a0_history a0_saved a0_closed a0_faces a0_rankOf a0_placeOf a0_counted a0_steps a0_onto a0_goes a0_firstImage (s7_thrown o0 0) p1 r1 hr2) 0 rfl (ci := 7) rfl rfl myX7_isPoint 220 mw_6_76 rfl [0, 1] [2] [1, 2, 0] (wr := [(a0_history, .inl (zI Z, 96, .inl (q7_history o0)))]) rfl rfl (by decide) (by decide) (by decide) [(a0, .inr (7, [.int 0, .ref a0_buffer, .int (q7_length o0), .int (q7_at o0), .int (q7_from o0), .int (q7_kind o0), .int (q7_number o0), .int (q7_wrong o0), .ref a0_now, .ref a0_made, .ref a0_history, .ref a0_saved, .int (q7_entries o0), .int (q7_isSaved o0), .ref a0_closed, .ref a0_faces, .ref a0_rankOf, .ref a0_placeOf, .int (q7_faceMany o0), .int (q7_isLaid o0), .ref a0_counted, .ref a0_steps, .ref a0_onto, .ref a0_goes, .int (q7_found o0), .int (q7_images o0), .ref a0_firstImage, .int (q7_gathered o0)])), (a0_now, .inl (zI Z, 12, .inl (q7_now o0))), (a0_history, .inl (zI Z, 96, .inl (q7_history o0)))] rfl (by decide) (Nat.le_of_ble_eq_true rfl) (by rw [hR]; exact Nat.le_of_ble_eq_true rfl) (by rw [hR]; exact Nat.le_of_ble_eq_true rfl) ⟨by rw [hR]; exact Nat.le_of_ble_eq_true rfl, by rw [hR]; exact Nat.le_of_ble_eq_true rfl⟩ rfl dX7_setIncident_8 ?_
  have hj27 : ∀ (x3 : Int32), fX7_setIncident_J27 o0 p1 p2 p3 x3 = some res → Gw p l e R s m args below meth c 5 Z A Q 0 0 27 [(0, .ref a0), (1, .int p1), (2, .int p2), (3, .int p3)] [.int x3, .ref a0] [(a0, .inr (7, [.int 0, .ref a0_buffer, .int (q7_length o0), .int (q7_at o0), .int (q7_from o0), .int (q7_kind o0), .int (q7_number o0), .int (q7_wrong o0), .ref a0_now, .ref a0_made, .ref a0_history, .ref a0_saved, .int (q7_entries o0), .int (q7_isSaved o0), .ref a0_closed, .ref a0_faces, .ref a0_rankOf, .ref a0_placeOf, .int (q7_faceMany o0), .int (q7_isLaid o0), .ref a0_counted, .ref a0_steps, .ref a0_onto, .ref a0_goes, .int (q7_found o0), .int (q7_images o0), .ref a0_firstImage, .int (q7_gathered o0)])), (a0_now, .inl (zI Z, 12, .inl (q7_now o0))), (a0_history, .inl (zI Z, 96, .inl (q7_history o0)))] := by
    intro x3 h
    unfold fX7_setIncident_J27 at h
    refine g_iconst C 1 dX7_setIncident_27 (by decide) ?_
    obtain ⟨r4, hr5, h⟩ := bd_of h
    refine g_callVi C (kX7_fails l Z a0 a0_buffer a0_now a0_made a0_history a0_saved a0_closed a0_faces a0_rankOf a0_placeOf a0_counted a0_steps a0_onto a0_goes a0_firstImage (s7_thrown o0 0) x3 1 r4 hr5) 0 rfl (ci := 7) rfl rfl myX7_fails 63 mw_5_181 rfl [0] [1, 2] [2, 0, 1] (wr := [(a0_now, .inl (zI Z, 12, .inl (q7_now o0))), (a0_history, .inl (zI Z, 96, .inl (q7_history o0)))]) rfl rfl (by decide) (by decide) (by decide) [(a0, .inr (7, [.int (q7_thrown r4.2), .ref a0_buffer, .int (q7_length o0), .int (q7_at o0), .int (q7_from o0), .int (q7_kind o0), .int (q7_number o0), .int (q7_wrong o0), .ref a0_now, .ref a0_made, .ref a0_history, .ref a0_saved, .int (q7_entries o0), .int (q7_isSaved o0), .ref a0_closed, .ref a0_faces, .ref a0_rankOf, .ref a0_placeOf, .int (q7_faceMany o0), .int (q7_isLaid o0), .ref a0_counted, .ref a0_steps, .ref a0_onto, .ref a0_goes, .int (q7_found o0), .int (q7_images o0), .ref a0_firstImage, .int (q7_gathered o0)])), (a0_now, .inl (zI Z, 12, .inl (q7_now o0))), (a0_history, .inl (zI Z, 96, .inl (q7_history o0)))] rfl (by decide) (Nat.le_of_ble_eq_true rfl) (by rw [hR]; exact Nat.le_of_ble_eq_true rfl) (by rw [hR]; exact Nat.le_of_ble_eq_true rfl) ⟨by rw [hR]; exact Nat.le_of_ble_eq_true rfl, by rw [hR]; exact Nat.le_of_ble_eq_true rfl⟩ rfl dX7_setIncident_28 ?_
    refine g_if_eq C 36 dX7_setIncident_31 (by decide) (fun c6 => ?_) (fun c6 => ?_)
    · replace h := it_t c6 h
      refine g_aload_n C dX7_setIncident_36 rfl 0 rfl ?_
      obtain ⟨r7, hr8, h⟩ := bd_of h
      refine g_callVv C (kX7_record l Z a0 a0_buffer a0_now a0_made a0_history a0_saved a0_closed a0_faces a0_rankOf a0_placeOf a0_counted a0_steps a0_onto a0_goes a0_firstImage (s7_thrown o0 (q7_thrown r4.2)) r7 hr8) 0 rfl (ci := 7) rfl rfl myX7_record 226 mw_6_84 rfl [0, 1, 2] [] [0, 1, 2] (wr := []) rfl rfl (by decide) (by decide) (by decide) [(a0, .inr (7, [.int (q7_thrown r4.2), .ref a0_buffer, .int (q7_length o0), .int (q7_at o0), .int (q7_from o0), .int (q7_kind o0), .int (q7_number o0), .int (q7_wrong o0), .ref a0_now, .ref a0_made, .ref a0_history, .ref a0_saved, .int (q7_entries r7), .int (q7_isSaved o0), .ref a0_closed, .ref a0_faces, .ref a0_rankOf, .ref a0_placeOf, .int (q7_faceMany o0), .int (q7_isLaid r7), .ref a0_counted, .ref a0_steps, .ref a0_onto, .ref a0_goes, .int (q7_found o0), .int (q7_images o0), .ref a0_firstImage, .int (q7_gathered o0)])), (a0_now, .inl (zI Z, 12, .inl (q7_now o0))), (a0_history, .inl (zI Z, 96, .inl (q7_history r7)))] rfl (by decide) (Nat.le_of_ble_eq_true rfl) (by rw [hR]; exact Nat.le_of_ble_eq_true rfl) (by rw [hR]; exact Nat.le_of_ble_eq_true rfl) ⟨by rw [hR]; exact Nat.le_of_ble_eq_true rfl, by rw [hR]; exact Nat.le_of_ble_eq_true rfl⟩ rfl dX7_setIncident_37 ?_
      refine g_aload_n C dX7_setIncident_40 rfl 0 rfl ?_
      refine g_get C 7 13 gin7 0 rfl rfl 8 (by decide) mw_5_93 rfl rfl dX7_setIncident_41 ?_
      refine g_iconst C 2 dX7_setIncident_44 (by decide) ?_
      refine g_iload_n C dX7_setIncident_45 rfl 2 rfl ?_
      refine g_iadd C dX7_setIncident_46 ?_
      obtain ⟨hi9, h⟩ := ck_of h
      refine g_iald C 1 rfl hi9 dX7_setIncident_47 ?_
      refine g_iload_n C dX7_setIncident_48 rfl 1 rfl ?_
      obtain ⟨r10, hr11, h⟩ := bd_of h
      refine g_callSi C (kX7_has l Z ((q7_now o0) (ix (2 + p2))) p1 r10 hr11) myX7_has 165 mw_6_45 rfl [] [0, 1, 2] [0, 1, 2] (wr := [(a0, .inr (7, [.int (q7_thrown r4.2), .ref a0_buffer, .int (q7_length o0), .int (q7_at o0), .int (q7_from o0), .int (q7_kind o0), .int (q7_number o0), .int (q7_wrong o0), .ref a0_now, .ref a0_made, .ref a0_history, .ref a0_saved, .int (q7_entries r7), .int (q7_isSaved o0), .ref a0_closed, .ref a0_faces, .ref a0_rankOf, .ref a0_placeOf, .int (q7_faceMany o0), .int (q7_isLaid r7), .ref a0_counted, .ref a0_steps, .ref a0_onto, .ref a0_goes, .int (q7_found o0), .int (q7_images o0), .ref a0_firstImage, .int (q7_gathered o0)])), (a0_now, .inl (zI Z, 12, .inl (q7_now o0))), (a0_history, .inl (zI Z, 96, .inl (q7_history r7)))]) rfl rfl (by decide) (by decide) (by decide) [(a0, .inr (7, [.int (q7_thrown r4.2), .ref a0_buffer, .int (q7_length o0), .int (q7_at o0), .int (q7_from o0), .int (q7_kind o0), .int (q7_number o0), .int (q7_wrong o0), .ref a0_now, .ref a0_made, .ref a0_history, .ref a0_saved, .int (q7_entries r7), .int (q7_isSaved o0), .ref a0_closed, .ref a0_faces, .ref a0_rankOf, .ref a0_placeOf, .int (q7_faceMany o0), .int (q7_isLaid r7), .ref a0_counted, .ref a0_steps, .ref a0_onto, .ref a0_goes, .int (q7_found o0), .int (q7_images o0), .ref a0_firstImage, .int (q7_gathered o0)])), (a0_now, .inl (zI Z, 12, .inl (q7_now o0))), (a0_history, .inl (zI Z, 96, .inl (q7_history r7)))] rfl (by decide) (Nat.le_of_ble_eq_true rfl) (by rw [hR]; exact Nat.le_of_ble_eq_true rfl) (by rw [hR]; exact Nat.le_of_ble_eq_true rfl) ⟨by rw [hR]; exact Nat.le_of_ble_eq_true rfl, by rw [hR]; exact Nat.le_of_ble_eq_true rfl⟩ rfl dX7_setIncident_49 ?_
      refine g_istore C dX7_setIncident_52 (by decide) [(4, .int r10), (0, .ref a0), (1, .int p1), (2, .int p2), (3, .int p3)] rfl ?_
      refine g_aload_n C dX7_setIncident_54 rfl 1 rfl ?_
      refine g_get C 7 13 gin7 0 rfl rfl 8 (by decide) mw_5_93 rfl rfl dX7_setIncident_55 ?_
      refine g_iconst C 2 dX7_setIncident_58 (by decide) ?_
      refine g_iload_n C dX7_setIncident_59 rfl 3 rfl ?_
      refine g_iadd C dX7_setIncident_60 ?_
      refine g_iload_n C dX7_setIncident_61 rfl 4 rfl ?_
      refine g_if_eq C 80 dX7_setIncident_62 (by decide) (fun c12 => ?_) (fun c12 => ?_)
      · replace h := it_t c12 h
        refine g_aload_n C dX7_setIncident_80 rfl 1 rfl ?_
        refine g_get C 7 13 gin7 0 rfl rfl 8 (by decide) mw_5_93 rfl rfl dX7_setIncident_81 ?_
        refine g_iconst C 2 dX7_setIncident_84 (by decide) ?_
        refine g_iload_n C dX7_setIncident_85 rfl 3 rfl ?_
        refine g_iadd C dX7_setIncident_86 ?_
        obtain ⟨hi13, h⟩ := ck_of h
        refine g_iald C 1 rfl hi13 dX7_setIncident_87 ?_
        refine g_iconst C 1 dX7_setIncident_88 (by decide) ?_
        refine g_iload_n C dX7_setIncident_89 rfl 2 rfl ?_
        refine g_ishl C dX7_setIncident_90 ?_
        refine g_iconst C (-1) dX7_setIncident_91 (by decide) ?_
        refine g_ixor C dX7_setIncident_92 ?_
        refine g_iand C dX7_setIncident_93 ?_
        obtain ⟨hi14, h⟩ := ck_of h
        refine g_iast C 1 rfl hi14 [(a0, .inr (7, [.int (q7_thrown r4.2), .ref a0_buffer, .int (q7_length o0), .int (q7_at o0), .int (q7_from o0), .int (q7_kind o0), .int (q7_number o0), .int (q7_wrong o0), .ref a0_now, .ref a0_made, .ref a0_history, .ref a0_saved, .int (q7_entries r7), .int (q7_isSaved o0), .ref a0_closed, .ref a0_faces, .ref a0_rankOf, .ref a0_placeOf, .int (q7_faceMany o0), .int (q7_isLaid r7), .ref a0_counted, .ref a0_steps, .ref a0_onto, .ref a0_goes, .int (q7_found o0), .int (q7_images o0), .ref a0_firstImage, .int (q7_gathered o0)])), (a0_now, .inl (zI Z, 12, .inl (upd (q7_now o0) (ix (2 + p2)) (((q7_now o0) (ix (2 + p2))) &&& ((jshl 1 p1) ^^^ (-1)))))), (a0_history, .inl (zI Z, 96, .inl (q7_history r7)))] rfl dX7_setIncident_94 ?_
        refine g_iload C dX7_setIncident_95 0 rfl ?_
        obtain ⟨hb, h⟩ := ck_of h
        obtain rfl := Option.some.inj h
        subst hQ
        exact g_zret C rfl (is01_of hb) hr hlk dX7_setIncident_97 [0, 1, 2] rfl (by decide)
      · replace h := it_f c12 h
        refine g_aload_n C dX7_setIncident_65 rfl 1 rfl ?_
        refine g_get C 7 13 gin7 0 rfl rfl 8 (by decide) mw_5_93 rfl rfl dX7_setIncident_66 ?_
        refine g_iconst C 2 dX7_setIncident_69 (by decide) ?_
        refine g_iload_n C dX7_setIncident_70 rfl 3 rfl ?_
        refine g_iadd C dX7_setIncident_71 ?_
        obtain ⟨hi15, h⟩ := ck_of h
        refine g_iald C 1 rfl hi15 dX7_setIncident_72 ?_
        refine g_iconst C 1 dX7_setIncident_73 (by decide) ?_
        refine g_iload_n C dX7_setIncident_74 rfl 2 rfl ?_
        refine g_ishl C dX7_setIncident_75 ?_
        refine g_ior C dX7_setIncident_76 ?_
        refine g_goto C 94 dX7_setIncident_77 (by decide) ?_
        obtain ⟨hi16, h⟩ := ck_of h
        refine g_iast C 1 rfl hi16 [(a0, .inr (7, [.int (q7_thrown r4.2), .ref a0_buffer, .int (q7_length o0), .int (q7_at o0), .int (q7_from o0), .int (q7_kind o0), .int (q7_number o0), .int (q7_wrong o0), .ref a0_now, .ref a0_made, .ref a0_history, .ref a0_saved, .int (q7_entries r7), .int (q7_isSaved o0), .ref a0_closed, .ref a0_faces, .ref a0_rankOf, .ref a0_placeOf, .int (q7_faceMany o0), .int (q7_isLaid r7), .ref a0_counted, .ref a0_steps, .ref a0_onto, .ref a0_goes, .int (q7_found o0), .int (q7_images o0), .ref a0_firstImage, .int (q7_gathered o0)])), (a0_now, .inl (zI Z, 12, .inl (upd (q7_now o0) (ix (2 + p2)) (((q7_now o0) (ix (2 + p2))) ||| (jshl 1 p1))))), (a0_history, .inl (zI Z, 96, .inl (q7_history r7)))] rfl dX7_setIncident_94 ?_
        refine g_iload C dX7_setIncident_95 0 rfl ?_
        obtain ⟨hb, h⟩ := ck_of h
        obtain rfl := Option.some.inj h
        subst hQ
        exact g_zret C rfl (is01_of hb) hr hlk dX7_setIncident_97 [0, 1, 2] rfl (by decide)
    · replace h := it_f c6 h
      refine g_iconst C 0 dX7_setIncident_34 (by decide) ?_
      obtain rfl := Option.some.inj h
      subst hQ
      exact g_zret C rfl (Or.inl rfl) hr hlk dX7_setIncident_35 [0, 1, 2] rfl (by decide)
  have hj26 : fX7_setIncident_J26 o0 p1 p2 p3 = some res → Gw p l e R s m args below meth c 5 Z A Q 0 0 26 [(0, .ref a0), (1, .int p1), (2, .int p2), (3, .int p3)] [.ref a0] [(a0, .inr (7, [.int 0, .ref a0_buffer, .int (q7_length o0), .int (q7_at o0), .int (q7_from o0), .int (q7_kind o0), .int (q7_number o0), .int (q7_wrong o0), .ref a0_now, .ref a0_made, .ref a0_history, .ref a0_saved, .int (q7_entries o0), .int (q7_isSaved o0), .ref a0_closed, .ref a0_faces, .ref a0_rankOf, .ref a0_placeOf, .int (q7_faceMany o0), .int (q7_isLaid o0), .ref a0_counted, .ref a0_steps, .ref a0_onto, .ref a0_goes, .int (q7_found o0), .int (q7_images o0), .ref a0_firstImage, .int (q7_gathered o0)])), (a0_now, .inl (zI Z, 12, .inl (q7_now o0))), (a0_history, .inl (zI Z, 96, .inl (q7_history o0)))] := by
    intro h
    unfold fX7_setIncident_J26 at h
    refine g_iconst C 0 dX7_setIncident_26 (by decide) ?_
    exact hj27 0 h
  refine g_if_eq C 26 dX7_setIncident_11 (by decide) (fun c17 => ?_) (fun c17 => ?_)
  · replace h := it_t c17 h
    exact hj26 h
  · replace h := it_f c17 h
    refine g_aload_n C dX7_setIncident_14 rfl 0 rfl ?_
    refine g_iload_n C dX7_setIncident_15 rfl 2 rfl ?_
    obtain ⟨r18, hr19, h⟩ := bd_of h
    refine g_callVi C (kX7_isFacet l Z a0 a0_buffer a0_now a0_made a0_history a0_saved a0_closed a0_faces a0_rankOf a0_placeOf a0_counted a0_steps a0_onto a0_goes a0_firstImage (s7_thrown o0 0) p2 r18 hr19) 0 rfl (ci := 7) rfl rfl myX7_isFacet 223 mw_6_80 rfl [0, 1] [2] [1, 2, 0] (wr := [(a0_history, .inl (zI Z, 96, .inl (q7_history o0)))]) rfl rfl (by decide) (by decide) (by decide) [(a0, .inr (7, [.int 0, .ref a0_buffer, .int (q7_length o0), .int (q7_at o0), .int (q7_from o0), .int (q7_kind o0), .int (q7_number o0), .int (q7_wrong o0), .ref a0_now, .ref a0_made, .ref a0_history, .ref a0_saved, .int (q7_entries o0), .int (q7_isSaved o0), .ref a0_closed, .ref a0_faces, .ref a0_rankOf, .ref a0_placeOf, .int (q7_faceMany o0), .int (q7_isLaid o0), .ref a0_counted, .ref a0_steps, .ref a0_onto, .ref a0_goes, .int (q7_found o0), .int (q7_images o0), .ref a0_firstImage, .int (q7_gathered o0)])), (a0_now, .inl (zI Z, 12, .inl (q7_now o0))), (a0_history, .inl (zI Z, 96, .inl (q7_history o0)))] rfl (by decide) (Nat.le_of_ble_eq_true rfl) (by rw [hR]; exact Nat.le_of_ble_eq_true rfl) (by rw [hR]; exact Nat.le_of_ble_eq_true rfl) ⟨by rw [hR]; exact Nat.le_of_ble_eq_true rfl, by rw [hR]; exact Nat.le_of_ble_eq_true rfl⟩ rfl dX7_setIncident_16 ?_
    refine g_if_eq C 26 dX7_setIncident_19 (by decide) (fun c20 => ?_) (fun c20 => ?_)
    · replace h := it_t c20 h
      exact hj26 h
    · replace h := it_f c20 h
      refine g_iconst C 1 dX7_setIncident_22 (by decide) ?_
      refine g_goto C 27 dX7_setIncident_23 (by decide) ?_
      exact hj27 1 h
def fX7_addFacet_J35 (o0 : OX7) (p1 : Int32) (r3 : Int32 × OX7) (x6 : Int32) : Option (Int32 × OX7) :=
  (fX7_fails (s7_thrown o0 (q7_thrown r3.2)) x6 2).bind fun r7 =>
  (if r7.1 = 0 then ((fX7_record (s7_thrown o0 (q7_thrown r7.2))).bind fun r10 =>
  (ck (okI (2 + ((q7_now o0) (ix 1))) 12) (some ((((upd (upd (q7_now o0) (ix (2 + ((q7_now o0) (ix 1)))) p1) (ix 1) (((upd (q7_now o0) (ix (2 + ((q7_now o0) (ix 1)))) p1) (ix 1)) + 1)) (ix 1)) - 1), (s7_isLaid (s7_entries (s7_history (s7_now (s7_thrown o0 (q7_thrown r7.2)) (upd (upd (q7_now o0) (ix (2 + ((q7_now o0) (ix 1)))) p1) (ix 1) (((upd (q7_now o0) (ix (2 + ((q7_now o0) (ix 1)))) p1) (ix 1)) + 1))) (q7_history r10)) (q7_entries r10)) (q7_isLaid r10))))))
  else (some (0, (s7_thrown o0 (q7_thrown r7.2)))))
def fX7_addFacet (o0 : OX7) (p1 : Int32) : Option (Int32 × OX7) :=
  (fX7_isSet (s7_thrown o0 0) p1).bind fun r1 =>
  ((fX7_fails (s7_thrown o0 0) r1 1).bind fun r3 =>
  (if r3.1 = 0 then (if 10 ≤ ((q7_now o0) (ix 1)) then (fX7_addFacet_J35 o0 p1 r3 0)
  else (fX7_addFacet_J35 o0 p1 r3 1))
  else (some (0, (s7_thrown o0 (q7_thrown r3.2))))))
theorem myX7_addFacet : MYv yX7_addFacet cX7_addFacet 2 (some .int) 1 := ⟨mw_6_89, mw_6_90, mw_6_91, mw_1_9, ⟨by decide +kernel, by decide +kernel⟩, by decide +kernel⟩
set_option maxRecDepth 100000 in
set_option maxHeartbeats 4000000 in
theorem kX7_addFacet (l : Launch) (Z : GZ) (a0 a0_buffer a0_now a0_made a0_history a0_saved a0_closed a0_faces a0_rankOf a0_placeOf a0_counted a0_steps a0_onto a0_goes a0_firstImage : Nat) (o0 : OX7) (p1 : Int32) (res : Int32 × OX7) (h : fX7_addFacet o0 p1 = some res) : MI l Z yX7_addFacet cX7_addFacet 2 .int 3 61 [.ref a0, .int p1] [(a0, .inr (7, [.int (q7_thrown o0), .ref a0_buffer, .int (q7_length o0), .int (q7_at o0), .int (q7_from o0), .int (q7_kind o0), .int (q7_number o0), .int (q7_wrong o0), .ref a0_now, .ref a0_made, .ref a0_history, .ref a0_saved, .int (q7_entries o0), .int (q7_isSaved o0), .ref a0_closed, .ref a0_faces, .ref a0_rankOf, .ref a0_placeOf, .int (q7_faceMany o0), .int (q7_isLaid o0), .ref a0_counted, .ref a0_steps, .ref a0_onto, .ref a0_goes, .int (q7_found o0), .int (q7_images o0), .ref a0_firstImage, .int (q7_gathered o0)])), (a0_now, .inl (zI Z, 12, .inl (q7_now o0))), (a0_history, .inl (zI Z, 96, .inl (q7_history o0)))] res.1 [(a0, .inr (7, [.int (q7_thrown res.2), .ref a0_buffer, .int (q7_length o0), .int (q7_at o0), .int (q7_from o0), .int (q7_kind o0), .int (q7_number o0), .int (q7_wrong o0), .ref a0_now, .ref a0_made, .ref a0_history, .ref a0_saved, .int (q7_entries res.2), .int (q7_isSaved o0), .ref a0_closed, .ref a0_faces, .ref a0_rankOf, .ref a0_placeOf, .int (q7_faceMany o0), .int (q7_isLaid res.2), .ref a0_counted, .ref a0_steps, .ref a0_onto, .ref a0_goes, .int (q7_found o0), .int (q7_images o0), .ref a0_firstImage, .int (q7_gathered o0)])), (a0_now, .inl (zI Z, 12, .inl (q7_now res.2))), (a0_history, .inl (zI Z, 96, .inl (q7_history res.2)))] := by
  refine MI_of (by decide +kernel) (Nat.le_of_ble_eq_true rfl) (fun {p e s m args below meth c} A R hR Q hQ C hr hlk => ?_)
  unfold fX7_addFacet at h
  refine g_lv [0, 1] [(0, .ref a0), (1, .int p1)] rfl ?_
  refine g_aload_n C dX7_addFacet_0 rfl 0 rfl ?_
  refine g_iconst C 0 dX7_addFacet_1 (by decide) ?_
  refine g_put C 7 52 gin7 tyX7 tyX7_ok nmX7 0 rfl rfl 0 (by decide) mw_5_85 rfl rfl (ty := .int) (by decide +kernel) rfl rfl (Nat.le_of_ble_eq_true rfl) [(a0, .inr (7, [.int 0, .ref a0_buffer, .int (q7_length o0), .int (q7_at o0), .int (q7_from o0), .int (q7_kind o0), .int (q7_number o0), .int (q7_wrong o0), .ref a0_now, .ref a0_made, .ref a0_history, .ref a0_saved, .int (q7_entries o0), .int (q7_isSaved o0), .ref a0_closed, .ref a0_faces, .ref a0_rankOf, .ref a0_placeOf, .int (q7_faceMany o0), .int (q7_isLaid o0), .ref a0_counted, .ref a0_steps, .ref a0_onto, .ref a0_goes, .int (q7_found o0), .int (q7_images o0), .ref a0_firstImage, .int (q7_gathered o0)])), (a0_now, .inl (zI Z, 12, .inl (q7_now o0))), (a0_history, .inl (zI Z, 96, .inl (q7_history o0)))] rfl dX7_addFacet_2 ?_
  refine g_aload_n C dX7_addFacet_5 rfl 0 rfl ?_
  refine g_aload_n C dX7_addFacet_6 rfl 0 rfl ?_
  refine g_iload_n C dX7_addFacet_7 rfl 1 rfl ?_
  obtain ⟨r1, hr2, h⟩ := bd_of h
  refine g_callVi C (kX7_isSet l Z a0 a0_buffer a0_now a0_made a0_history a0_saved a0_closed a0_faces a0_rankOf a0_placeOf a0_counted a0_steps a0_onto a0_goes a0_firstImage (s7_thrown o0 0) p1 r1 hr2) 0 rfl (ci := 7) rfl rfl myX7_isSet 229 mw_6_92 rfl [0, 1] [2] [1, 2, 0] (wr := [(a0_history, .inl (zI Z, 96, .inl (q7_history o0)))]) rfl rfl (by decide) (by decide) (by decide) [(a0, .inr (7, [.int 0, .ref a0_buffer, .int (q7_length o0), .int (q7_at o0), .int (q7_from o0), .int (q7_kind o0), .int (q7_number o0), .int (q7_wrong o0), .ref a0_now, .ref a0_made, .ref a0_history, .ref a0_saved, .int (q7_entries o0), .int (q7_isSaved o0), .ref a0_closed, .ref a0_faces, .ref a0_rankOf, .ref a0_placeOf, .int (q7_faceMany o0), .int (q7_isLaid o0), .ref a0_counted, .ref a0_steps, .ref a0_onto, .ref a0_goes, .int (q7_found o0), .int (q7_images o0), .ref a0_firstImage, .int (q7_gathered o0)])), (a0_now, .inl (zI Z, 12, .inl (q7_now o0))), (a0_history, .inl (zI Z, 96, .inl (q7_history o0)))] rfl (by decide) (Nat.le_of_ble_eq_true rfl) (by rw [hR]; exact Nat.le_of_ble_eq_true rfl) (by rw [hR]; exact Nat.le_of_ble_eq_true rfl) ⟨by rw [hR]; exact Nat.le_of_ble_eq_true rfl, by rw [hR]; exact Nat.le_of_ble_eq_true rfl⟩ rfl dX7_addFacet_8 ?_
  refine g_iconst C 1 dX7_addFacet_11 (by decide) ?_
  obtain ⟨r3, hr4, h⟩ := bd_of h
  refine g_callVi C (kX7_fails l Z a0 a0_buffer a0_now a0_made a0_history a0_saved a0_closed a0_faces a0_rankOf a0_placeOf a0_counted a0_steps a0_onto a0_goes a0_firstImage (s7_thrown o0 0) r1 1 r3 hr4) 0 rfl (ci := 7) rfl rfl myX7_fails 63 mw_5_181 rfl [0] [1, 2] [2, 0, 1] (wr := [(a0_now, .inl (zI Z, 12, .inl (q7_now o0))), (a0_history, .inl (zI Z, 96, .inl (q7_history o0)))]) rfl rfl (by decide) (by decide) (by decide) [(a0, .inr (7, [.int (q7_thrown r3.2), .ref a0_buffer, .int (q7_length o0), .int (q7_at o0), .int (q7_from o0), .int (q7_kind o0), .int (q7_number o0), .int (q7_wrong o0), .ref a0_now, .ref a0_made, .ref a0_history, .ref a0_saved, .int (q7_entries o0), .int (q7_isSaved o0), .ref a0_closed, .ref a0_faces, .ref a0_rankOf, .ref a0_placeOf, .int (q7_faceMany o0), .int (q7_isLaid o0), .ref a0_counted, .ref a0_steps, .ref a0_onto, .ref a0_goes, .int (q7_found o0), .int (q7_images o0), .ref a0_firstImage, .int (q7_gathered o0)])), (a0_now, .inl (zI Z, 12, .inl (q7_now o0))), (a0_history, .inl (zI Z, 96, .inl (q7_history o0)))] rfl (by decide) (Nat.le_of_ble_eq_true rfl) (by rw [hR]; exact Nat.le_of_ble_eq_true rfl) (by rw [hR]; exact Nat.le_of_ble_eq_true rfl) ⟨by rw [hR]; exact Nat.le_of_ble_eq_true rfl, by rw [hR]; exact Nat.le_of_ble_eq_true rfl⟩ rfl dX7_addFacet_12 ?_
  refine g_if_ne C 42 dX7_addFacet_15 (by decide) (fun c5 => ?_) (fun c5 => ?_)
  · replace h := it_f c5 h
    refine g_iconst C 0 dX7_addFacet_42 (by decide) ?_
    obtain rfl := Option.some.inj h
    subst hQ
    exact g_iret C rfl hr hlk dX7_addFacet_43 [0, 1, 2] rfl (by decide)
  · replace h := it_t c5 h
    refine g_aload_n C dX7_addFacet_18 rfl 0 rfl ?_
    refine g_aload_n C dX7_addFacet_19 rfl 0 rfl ?_
    refine g_get C 7 13 gin7 0 rfl rfl 8 (by decide) mw_5_93 rfl rfl dX7_addFacet_20 ?_
    refine g_iconst C 1 dX7_addFacet_23 (by decide) ?_
    refine g_iald C 1 rfl (by decide) dX7_addFacet_24 ?_
    refine g_bipush C 10 dX7_addFacet_25 (by decide) ?_
    have hj35 : ∀ (x6 : Int32), fX7_addFacet_J35 o0 p1 r3 x6 = some res → Gw p l e R s m args below meth c 2 Z A Q 0 0 35 [(0, .ref a0), (1, .int p1)] [.int x6, .ref a0] [(a0, .inr (7, [.int (q7_thrown r3.2), .ref a0_buffer, .int (q7_length o0), .int (q7_at o0), .int (q7_from o0), .int (q7_kind o0), .int (q7_number o0), .int (q7_wrong o0), .ref a0_now, .ref a0_made, .ref a0_history, .ref a0_saved, .int (q7_entries o0), .int (q7_isSaved o0), .ref a0_closed, .ref a0_faces, .ref a0_rankOf, .ref a0_placeOf, .int (q7_faceMany o0), .int (q7_isLaid o0), .ref a0_counted, .ref a0_steps, .ref a0_onto, .ref a0_goes, .int (q7_found o0), .int (q7_images o0), .ref a0_firstImage, .int (q7_gathered o0)])), (a0_now, .inl (zI Z, 12, .inl (q7_now o0))), (a0_history, .inl (zI Z, 96, .inl (q7_history o0)))] := by
      intro x6 h
      unfold fX7_addFacet_J35 at h
      refine g_iconst C 2 dX7_addFacet_35 (by decide) ?_
      obtain ⟨r7, hr8, h⟩ := bd_of h
      refine g_callVi C (kX7_fails l Z a0 a0_buffer a0_now a0_made a0_history a0_saved a0_closed a0_faces a0_rankOf a0_placeOf a0_counted a0_steps a0_onto a0_goes a0_firstImage (s7_thrown o0 (q7_thrown r3.2)) x6 2 r7 hr8) 0 rfl (ci := 7) rfl rfl myX7_fails 63 mw_5_181 rfl [0] [1, 2] [2, 0, 1] (wr := [(a0_now, .inl (zI Z, 12, .inl (q7_now o0))), (a0_history, .inl (zI Z, 96, .inl (q7_history o0)))]) rfl rfl (by decide) (by decide) (by decide) [(a0, .inr (7, [.int (q7_thrown r7.2), .ref a0_buffer, .int (q7_length o0), .int (q7_at o0), .int (q7_from o0), .int (q7_kind o0), .int (q7_number o0), .int (q7_wrong o0), .ref a0_now, .ref a0_made, .ref a0_history, .ref a0_saved, .int (q7_entries o0), .int (q7_isSaved o0), .ref a0_closed, .ref a0_faces, .ref a0_rankOf, .ref a0_placeOf, .int (q7_faceMany o0), .int (q7_isLaid o0), .ref a0_counted, .ref a0_steps, .ref a0_onto, .ref a0_goes, .int (q7_found o0), .int (q7_images o0), .ref a0_firstImage, .int (q7_gathered o0)])), (a0_now, .inl (zI Z, 12, .inl (q7_now o0))), (a0_history, .inl (zI Z, 96, .inl (q7_history o0)))] rfl (by decide) (Nat.le_of_ble_eq_true rfl) (by rw [hR]; exact Nat.le_of_ble_eq_true rfl) (by rw [hR]; exact Nat.le_of_ble_eq_true rfl) ⟨by rw [hR]; exact Nat.le_of_ble_eq_true rfl, by rw [hR]; exact Nat.le_of_ble_eq_true rfl⟩ rfl dX7_addFacet_36 ?_
      refine g_if_eq C 44 dX7_addFacet_39 (by decide) (fun c9 => ?_) (fun c9 => ?_)
      · replace h := it_t c9 h
        refine g_aload_n C dX7_addFacet_44 rfl 0 rfl ?_
        obtain ⟨r10, hr11, h⟩ := bd_of h
        refine g_callVv C (kX7_record l Z a0 a0_buffer a0_now a0_made a0_history a0_saved a0_closed a0_faces a0_rankOf a0_placeOf a0_counted a0_steps a0_onto a0_goes a0_firstImage (s7_thrown o0 (q7_thrown r7.2)) r10 hr11) 0 rfl (ci := 7) rfl rfl myX7_record 226 mw_6_84 rfl [0, 1, 2] [] [0, 1, 2] (wr := []) rfl rfl (by decide) (by decide) (by decide) [(a0, .inr (7, [.int (q7_thrown r7.2), .ref a0_buffer, .int (q7_length o0), .int (q7_at o0), .int (q7_from o0), .int (q7_kind o0), .int (q7_number o0), .int (q7_wrong o0), .ref a0_now, .ref a0_made, .ref a0_history, .ref a0_saved, .int (q7_entries r10), .int (q7_isSaved o0), .ref a0_closed, .ref a0_faces, .ref a0_rankOf, .ref a0_placeOf, .int (q7_faceMany o0), .int (q7_isLaid r10), .ref a0_counted, .ref a0_steps, .ref a0_onto, .ref a0_goes, .int (q7_found o0), .int (q7_images o0), .ref a0_firstImage, .int (q7_gathered o0)])), (a0_now, .inl (zI Z, 12, .inl (q7_now o0))), (a0_history, .inl (zI Z, 96, .inl (q7_history r10)))] rfl (by decide) (Nat.le_of_ble_eq_true rfl) (by rw [hR]; exact Nat.le_of_ble_eq_true rfl) (by rw [hR]; exact Nat.le_of_ble_eq_true rfl) ⟨by rw [hR]; exact Nat.le_of_ble_eq_true rfl, by rw [hR]; exact Nat.le_of_ble_eq_true rfl⟩ rfl dX7_addFacet_45 ?_
        refine g_aload_n C dX7_addFacet_48 rfl 0 rfl ?_
        refine g_get C 7 13 gin7 0 rfl rfl 8 (by decide) mw_5_93 rfl rfl dX7_addFacet_49 ?_
        refine g_iconst C 2 dX7_addFacet_52 (by decide) ?_
        refine g_aload_n C dX7_addFacet_53 rfl 0 rfl ?_
        refine g_get C 7 13 gin7 0 rfl rfl 8 (by decide) mw_5_93 rfl rfl dX7_addFacet_54 ?_
        refine g_iconst C 1 dX7_addFacet_57 (by decide) ?_
        refine g_iald C 1 rfl (by decide) dX7_addFacet_58 ?_
        refine g_iadd C dX7_addFacet_59 ?_
        refine g_iload_n C dX7_addFacet_60 rfl 1 rfl ?_
        obtain ⟨hi12, h⟩ := ck_of h
        refine g_iast C 1 rfl hi12 [(a0, .inr (7, [.int (q7_thrown r7.2), .ref a0_buffer, .int (q7_length o0), .int (q7_at o0), .int (q7_from o0), .int (q7_kind o0), .int (q7_number o0), .int (q7_wrong o0), .ref a0_now, .ref a0_made, .ref a0_history, .ref a0_saved, .int (q7_entries r10), .int (q7_isSaved o0), .ref a0_closed, .ref a0_faces, .ref a0_rankOf, .ref a0_placeOf, .int (q7_faceMany o0), .int (q7_isLaid r10), .ref a0_counted, .ref a0_steps, .ref a0_onto, .ref a0_goes, .int (q7_found o0), .int (q7_images o0), .ref a0_firstImage, .int (q7_gathered o0)])), (a0_now, .inl (zI Z, 12, .inl (upd (q7_now o0) (ix (2 + ((q7_now o0) (ix 1)))) p1))), (a0_history, .inl (zI Z, 96, .inl (q7_history r10)))] rfl dX7_addFacet_61 ?_
        refine g_aload_n C dX7_addFacet_62 rfl 0 rfl ?_
        refine g_get C 7 13 gin7 0 rfl rfl 8 (by decide) mw_5_93 rfl rfl dX7_addFacet_63 ?_
        refine g_iconst C 1 dX7_addFacet_66 (by decide) ?_
        refine g_dup2 C dX7_addFacet_67 rfl rfl ?_
        refine g_iald C 1 rfl (by decide) dX7_addFacet_68 ?_
        refine g_iconst C 1 dX7_addFacet_69 (by decide) ?_
        refine g_iadd C dX7_addFacet_70 ?_
        refine g_iast C 1 rfl (by decide) [(a0, .inr (7, [.int (q7_thrown r7.2), .ref a0_buffer, .int (q7_length o0), .int (q7_at o0), .int (q7_from o0), .int (q7_kind o0), .int (q7_number o0), .int (q7_wrong o0), .ref a0_now, .ref a0_made, .ref a0_history, .ref a0_saved, .int (q7_entries r10), .int (q7_isSaved o0), .ref a0_closed, .ref a0_faces, .ref a0_rankOf, .ref a0_placeOf, .int (q7_faceMany o0), .int (q7_isLaid r10), .ref a0_counted, .ref a0_steps, .ref a0_onto, .ref a0_goes, .int (q7_found o0), .int (q7_images o0), .ref a0_firstImage, .int (q7_gathered o0)])), (a0_now, .inl (zI Z, 12, .inl (upd (upd (q7_now o0) (ix (2 + ((q7_now o0) (ix 1)))) p1) (ix 1) (((upd (q7_now o0) (ix (2 + ((q7_now o0) (ix 1)))) p1) (ix 1)) + 1)))), (a0_history, .inl (zI Z, 96, .inl (q7_history r10)))] rfl dX7_addFacet_71 ?_
        refine g_aload_n C dX7_addFacet_72 rfl 0 rfl ?_
        refine g_get C 7 13 gin7 0 rfl rfl 8 (by decide) mw_5_93 rfl rfl dX7_addFacet_73 ?_
        refine g_iconst C 1 dX7_addFacet_76 (by decide) ?_
        refine g_iald C 1 rfl (by decide) dX7_addFacet_77 ?_
        refine g_iconst C 1 dX7_addFacet_78 (by decide) ?_
        refine g_isub C dX7_addFacet_79 ?_
        obtain rfl := Option.some.inj h
        subst hQ
        exact g_iret C rfl hr hlk dX7_addFacet_80 [0, 1, 2] rfl (by decide)
      · replace h := it_f c9 h
        refine g_iconst C 0 dX7_addFacet_42 (by decide) ?_
        obtain rfl := Option.some.inj h
        subst hQ
        exact g_iret C rfl hr hlk dX7_addFacet_43 [0, 1, 2] rfl (by decide)
    refine g_icmp_ge C 34 dX7_addFacet_27 (by decide) (fun c13 => ?_) (fun c13 => ?_)
    · replace h := it_t c13 h
      refine g_iconst C 0 dX7_addFacet_34 (by decide) ?_
      exact hj35 0 h
    · replace h := it_f c13 h
      refine g_iconst C 1 dX7_addFacet_30 (by decide) ?_
      refine g_goto C 35 dX7_addFacet_31 (by decide) ?_
      exact hj35 1 h
def fX7_dropFacet_L12 (o0 : OX7) (v1 : Int32 × (Nat → Int32)) : Option ((Int32 × (Nat → Int32)) ⊕ (OX7)) :=
  if (v1.2 (ix 1)) ≤ v1.1 then (ex (ck (okI (2 + (v1.2 (ix 1))) 12) (some (s7_now o0 (upd v1.2 (ix (2 + (v1.2 (ix 1)))) 0)))))
  else (ck (okI ((2 + v1.1) + 1) 12) (ck (okI (2 + v1.1) 12) (some (.inl ((v1.1 + 1), (upd v1.2 (ix (2 + v1.1)) (v1.2 (ix ((2 + v1.1) + 1)))))))))
def fX7_dropFacet (o0 : OX7) (p1 : Int32) : Option (OX7) :=
  lp (fX7_dropFacet_L12 o0) lpN (p1, (upd (q7_now o0) (ix 1) (((q7_now o0) (ix 1)) - 1)))
theorem myX7_dropFacet : MYv yX7_dropFacet cX7_dropFacet 3 none 1 := ⟨mw_6_106, ms_57, mw_6_107, mw_1_9, ⟨by decide +kernel, by decide +kernel⟩, by decide +kernel⟩
set_option maxRecDepth 100000 in
set_option maxHeartbeats 4000000 in
theorem kX7_dropFacet (l : Launch) (Z : GZ) (a0 a0_buffer a0_now a0_made a0_history a0_saved a0_closed a0_faces a0_rankOf a0_placeOf a0_counted a0_steps a0_onto a0_goes a0_firstImage : Nat) (o0 : OX7) (p1 : Int32) (res : OX7) (h : fX7_dropFacet o0 p1 = some res) : MV l Z yX7_dropFacet cX7_dropFacet 3 0 0 [.ref a0, .int p1] [(a0, .inr (7, [.int (q7_thrown o0), .ref a0_buffer, .int (q7_length o0), .int (q7_at o0), .int (q7_from o0), .int (q7_kind o0), .int (q7_number o0), .int (q7_wrong o0), .ref a0_now, .ref a0_made, .ref a0_history, .ref a0_saved, .int (q7_entries o0), .int (q7_isSaved o0), .ref a0_closed, .ref a0_faces, .ref a0_rankOf, .ref a0_placeOf, .int (q7_faceMany o0), .int (q7_isLaid o0), .ref a0_counted, .ref a0_steps, .ref a0_onto, .ref a0_goes, .int (q7_found o0), .int (q7_images o0), .ref a0_firstImage, .int (q7_gathered o0)])), (a0_now, .inl (zI Z, 12, .inl (q7_now o0)))] [(a0, .inr (7, [.int (q7_thrown o0), .ref a0_buffer, .int (q7_length o0), .int (q7_at o0), .int (q7_from o0), .int (q7_kind o0), .int (q7_number o0), .int (q7_wrong o0), .ref a0_now, .ref a0_made, .ref a0_history, .ref a0_saved, .int (q7_entries o0), .int (q7_isSaved o0), .ref a0_closed, .ref a0_faces, .ref a0_rankOf, .ref a0_placeOf, .int (q7_faceMany o0), .int (q7_isLaid o0), .ref a0_counted, .ref a0_steps, .ref a0_onto, .ref a0_goes, .int (q7_found o0), .int (q7_images o0), .ref a0_firstImage, .int (q7_gathered o0)])), (a0_now, .inl (zI Z, 12, .inl (q7_now res)))] := by
  refine MV_of (by decide +kernel) (Nat.le_of_ble_eq_true rfl) (fun {p e s m args below meth c} A R hR Q hQ C hr hlk => ?_)
  unfold fX7_dropFacet at h
  refine g_lv [0, 1] [(0, .ref a0), (1, .int p1)] rfl ?_
  refine g_aload_n C dX7_dropFacet_0 rfl 0 rfl ?_
  refine g_get C 7 13 gin7 0 rfl rfl 8 (by decide) mw_5_93 rfl rfl dX7_dropFacet_1 ?_
  refine g_iconst C 1 dX7_dropFacet_4 (by decide) ?_
  refine g_dup2 C dX7_dropFacet_5 rfl rfl ?_
  refine g_iald C 1 rfl (by decide) dX7_dropFacet_6 ?_
  refine g_iconst C 1 dX7_dropFacet_7 (by decide) ?_
  refine g_isub C dX7_dropFacet_8 ?_
  refine g_iast C 1 rfl (by decide) [(a0, .inr (7, [.int (q7_thrown o0), .ref a0_buffer, .int (q7_length o0), .int (q7_at o0), .int (q7_from o0), .int (q7_kind o0), .int (q7_number o0), .int (q7_wrong o0), .ref a0_now, .ref a0_made, .ref a0_history, .ref a0_saved, .int (q7_entries o0), .int (q7_isSaved o0), .ref a0_closed, .ref a0_faces, .ref a0_rankOf, .ref a0_placeOf, .int (q7_faceMany o0), .int (q7_isLaid o0), .ref a0_counted, .ref a0_steps, .ref a0_onto, .ref a0_goes, .int (q7_found o0), .int (q7_images o0), .ref a0_firstImage, .int (q7_gathered o0)])), (a0_now, .inl (zI Z, 12, .inl (upd (q7_now o0) (ix 1) (((q7_now o0) (ix 1)) - 1))))] rfl dX7_dropFacet_9 ?_
  refine g_iload_n C dX7_dropFacet_10 rfl 1 rfl ?_
  refine g_istore_n C dX7_dropFacet_11 rfl (by decide) [(2, .int p1), (0, .ref a0), (1, .int p1)] rfl ?_
  refine g_lv [1, 0] [(0, .ref a0), (2, .int p1)] rfl ?_
  refine g_loop (lvf := fun v1 => [(0, .ref a0), (2, .int v1.1)]) (wsf := fun v1 => [(a0, .inr (7, [.int (q7_thrown o0), .ref a0_buffer, .int (q7_length o0), .int (q7_at o0), .int (q7_from o0), .int (q7_kind o0), .int (q7_number o0), .int (q7_wrong o0), .ref a0_now, .ref a0_made, .ref a0_history, .ref a0_saved, .int (q7_entries o0), .int (q7_isSaved o0), .ref a0_closed, .ref a0_faces, .ref a0_rankOf, .ref a0_placeOf, .int (q7_faceMany o0), .int (q7_isLaid o0), .ref a0_counted, .ref a0_steps, .ref a0_onto, .ref a0_goes, .int (q7_found o0), .int (q7_images o0), .ref a0_firstImage, .int (q7_gathered o0)])), (a0_now, .inl (zI Z, 12, .inl v1.2))]) h (fun v1 y1 h hk1 hx1 => ?_)
  refine g_eq (lv1 := [(0, .ref a0), (2, .int v1.1)]) (st1 := []) (ws1 := [(a0, .inr (7, [.int (q7_thrown o0), .ref a0_buffer, .int (q7_length o0), .int (q7_at o0), .int (q7_from o0), .int (q7_kind o0), .int (q7_number o0), .int (q7_wrong o0), .ref a0_now, .ref a0_made, .ref a0_history, .ref a0_saved, .int (q7_entries o0), .int (q7_isSaved o0), .ref a0_closed, .ref a0_faces, .ref a0_rankOf, .ref a0_placeOf, .int (q7_faceMany o0), .int (q7_isLaid o0), .ref a0_counted, .ref a0_steps, .ref a0_onto, .ref a0_goes, .int (q7_found o0), .int (q7_images o0), .ref a0_firstImage, .int (q7_gathered o0)])), (a0_now, .inl (zI Z, 12, .inl v1.2))]) rfl rfl rfl rfl ?_
  unfold fX7_dropFacet_L12 at h
  refine g_iload_n C dX7_dropFacet_12 rfl 1 rfl ?_
  refine g_aload_n C dX7_dropFacet_13 rfl 0 rfl ?_
  refine g_get C 7 13 gin7 0 rfl rfl 8 (by decide) mw_5_93 rfl rfl dX7_dropFacet_14 ?_
  refine g_iconst C 1 dX7_dropFacet_17 (by decide) ?_
  refine g_iald C 1 rfl (by decide) dX7_dropFacet_18 ?_
  refine g_icmp_ge C 46 dX7_dropFacet_19 (by decide) (fun c2 => ?_) (fun c2 => ?_)
  · replace h := it_t c2 h
    obtain ⟨r3, h, hy⟩ := ex_of h
    rw [hx1 r3 hy] at h
    refine g_aload_n C dX7_dropFacet_46 rfl 0 rfl ?_
    refine g_get C 7 13 gin7 0 rfl rfl 8 (by decide) mw_5_93 rfl rfl dX7_dropFacet_47 ?_
    refine g_iconst C 2 dX7_dropFacet_50 (by decide) ?_
    refine g_aload_n C dX7_dropFacet_51 rfl 0 rfl ?_
    refine g_get C 7 13 gin7 0 rfl rfl 8 (by decide) mw_5_93 rfl rfl dX7_dropFacet_52 ?_
    refine g_iconst C 1 dX7_dropFacet_55 (by decide) ?_
    refine g_iald C 1 rfl (by decide) dX7_dropFacet_56 ?_
    refine g_iadd C dX7_dropFacet_57 ?_
    refine g_iconst C 0 dX7_dropFacet_58 (by decide) ?_
    obtain ⟨hi4, h⟩ := ck_of h
    refine g_iast C 1 rfl hi4 [(a0, .inr (7, [.int (q7_thrown o0), .ref a0_buffer, .int (q7_length o0), .int (q7_at o0), .int (q7_from o0), .int (q7_kind o0), .int (q7_number o0), .int (q7_wrong o0), .ref a0_now, .ref a0_made, .ref a0_history, .ref a0_saved, .int (q7_entries o0), .int (q7_isSaved o0), .ref a0_closed, .ref a0_faces, .ref a0_rankOf, .ref a0_placeOf, .int (q7_faceMany o0), .int (q7_isLaid o0), .ref a0_counted, .ref a0_steps, .ref a0_onto, .ref a0_goes, .int (q7_found o0), .int (q7_images o0), .ref a0_firstImage, .int (q7_gathered o0)])), (a0_now, .inl (zI Z, 12, .inl (upd v1.2 (ix (2 + (v1.2 (ix 1)))) 0)))] rfl dX7_dropFacet_59 ?_
    obtain rfl := Option.some.inj h
    subst hQ
    exact g_vret C hr hlk dX7_dropFacet_60 [0, 1] rfl (by decide)
  · replace h := it_f c2 h
    refine g_aload_n C dX7_dropFacet_22 rfl 0 rfl ?_
    refine g_get C 7 13 gin7 0 rfl rfl 8 (by decide) mw_5_93 rfl rfl dX7_dropFacet_23 ?_
    refine g_iconst C 2 dX7_dropFacet_26 (by decide) ?_
    refine g_iload_n C dX7_dropFacet_27 rfl 1 rfl ?_
    refine g_iadd C dX7_dropFacet_28 ?_
    refine g_aload_n C dX7_dropFacet_29 rfl 0 rfl ?_
    refine g_get C 7 13 gin7 0 rfl rfl 8 (by decide) mw_5_93 rfl rfl dX7_dropFacet_30 ?_
    refine g_iconst C 2 dX7_dropFacet_33 (by decide) ?_
    refine g_iload_n C dX7_dropFacet_34 rfl 1 rfl ?_
    refine g_iadd C dX7_dropFacet_35 ?_
    refine g_iconst C 1 dX7_dropFacet_36 (by decide) ?_
    refine g_iadd C dX7_dropFacet_37 ?_
    obtain ⟨hi5, h⟩ := ck_of h
    refine g_iald C 1 rfl hi5 dX7_dropFacet_38 ?_
    obtain ⟨hi6, h⟩ := ck_of h
    refine g_iast C 1 rfl hi6 [(a0, .inr (7, [.int (q7_thrown o0), .ref a0_buffer, .int (q7_length o0), .int (q7_at o0), .int (q7_from o0), .int (q7_kind o0), .int (q7_number o0), .int (q7_wrong o0), .ref a0_now, .ref a0_made, .ref a0_history, .ref a0_saved, .int (q7_entries o0), .int (q7_isSaved o0), .ref a0_closed, .ref a0_faces, .ref a0_rankOf, .ref a0_placeOf, .int (q7_faceMany o0), .int (q7_isLaid o0), .ref a0_counted, .ref a0_steps, .ref a0_onto, .ref a0_goes, .int (q7_found o0), .int (q7_images o0), .ref a0_firstImage, .int (q7_gathered o0)])), (a0_now, .inl (zI Z, 12, .inl (upd v1.2 (ix (2 + v1.1)) (v1.2 (ix ((2 + v1.1) + 1))))))] rfl dX7_dropFacet_39 ?_
    refine g_iinc C (v1.1 + 1) dX7_dropFacet_40 1 rfl rfl (by decide) [(2, .int (v1.1 + 1)), (0, .ref a0)] rfl ?_
    refine g_goto C 12 dX7_dropFacet_43 (by decide) ?_
    refine g_lv [1, 0] [(0, .ref a0), (2, .int (v1.1 + 1))] rfl ?_
    exact hk1 ((v1.1 + 1), (upd v1.2 (ix (2 + v1.1)) (v1.2 (ix ((2 + v1.1) + 1))))) (Option.some.inj h).symm
def fX7_removeFacet (o0 : OX7) (p1 : Int32) : Option (Int32 × OX7) :=
  (fX7_isFacet (s7_thrown o0 0) p1).bind fun r1 =>
  ((fX7_fails (s7_thrown o0 0) r1 1).bind fun r3 =>
  (if r3.1 = 0 then ((fX7_record (s7_thrown o0 (q7_thrown r3.2))).bind fun r6 =>
  (ck (okI (2 + p1) 12) ((fX7_dropFacet (s7_isLaid (s7_entries (s7_history (s7_thrown o0 (q7_thrown r3.2)) (q7_history r6)) (q7_entries r6)) (q7_isLaid r6)) p1).bind fun r9 =>
  (some (((q7_now o0) (ix (2 + p1))), (s7_isLaid (s7_entries (s7_history (s7_now (s7_thrown o0 (q7_thrown r3.2)) (q7_now r9)) (q7_history r6)) (q7_entries r6)) (q7_isLaid r6)))))))
  else (some (0, (s7_thrown o0 (q7_thrown r3.2))))))
theorem myX7_removeFacet : MYv yX7_removeFacet cX7_removeFacet 3 (some .int) 1 := ⟨mw_6_101, mw_6_102, mw_6_103, mw_1_9, ⟨by decide +kernel, by decide +kernel⟩, by decide +kernel⟩
set_option maxRecDepth 100000 in
set_option maxHeartbeats 4000000 in
theorem kX7_removeFacet (l : Launch) (Z : GZ) (a0 a0_buffer a0_now a0_made a0_history a0_saved a0_closed a0_faces a0_rankOf a0_placeOf a0_counted a0_steps a0_onto a0_goes a0_firstImage : Nat) (o0 : OX7) (p1 : Int32) (res : Int32 × OX7) (h : fX7_removeFacet o0 p1 = some res) : MI l Z yX7_removeFacet cX7_removeFacet 3 .int 2 43 [.ref a0, .int p1] [(a0, .inr (7, [.int (q7_thrown o0), .ref a0_buffer, .int (q7_length o0), .int (q7_at o0), .int (q7_from o0), .int (q7_kind o0), .int (q7_number o0), .int (q7_wrong o0), .ref a0_now, .ref a0_made, .ref a0_history, .ref a0_saved, .int (q7_entries o0), .int (q7_isSaved o0), .ref a0_closed, .ref a0_faces, .ref a0_rankOf, .ref a0_placeOf, .int (q7_faceMany o0), .int (q7_isLaid o0), .ref a0_counted, .ref a0_steps, .ref a0_onto, .ref a0_goes, .int (q7_found o0), .int (q7_images o0), .ref a0_firstImage, .int (q7_gathered o0)])), (a0_now, .inl (zI Z, 12, .inl (q7_now o0))), (a0_history, .inl (zI Z, 96, .inl (q7_history o0)))] res.1 [(a0, .inr (7, [.int (q7_thrown res.2), .ref a0_buffer, .int (q7_length o0), .int (q7_at o0), .int (q7_from o0), .int (q7_kind o0), .int (q7_number o0), .int (q7_wrong o0), .ref a0_now, .ref a0_made, .ref a0_history, .ref a0_saved, .int (q7_entries res.2), .int (q7_isSaved o0), .ref a0_closed, .ref a0_faces, .ref a0_rankOf, .ref a0_placeOf, .int (q7_faceMany o0), .int (q7_isLaid res.2), .ref a0_counted, .ref a0_steps, .ref a0_onto, .ref a0_goes, .int (q7_found o0), .int (q7_images o0), .ref a0_firstImage, .int (q7_gathered o0)])), (a0_now, .inl (zI Z, 12, .inl (q7_now res.2))), (a0_history, .inl (zI Z, 96, .inl (q7_history res.2)))] := by
  refine MI_of (by decide +kernel) (Nat.le_of_ble_eq_true rfl) (fun {p e s m args below meth c} A R hR Q hQ C hr hlk => ?_)
  unfold fX7_removeFacet at h
  refine g_lv [0, 1] [(0, .ref a0), (1, .int p1)] rfl ?_
  refine g_aload_n C dX7_removeFacet_0 rfl 0 rfl ?_
  refine g_iconst C 0 dX7_removeFacet_1 (by decide) ?_
  refine g_put C 7 52 gin7 tyX7 tyX7_ok nmX7 0 rfl rfl 0 (by decide) mw_5_85 rfl rfl (ty := .int) (by decide +kernel) rfl rfl (Nat.le_of_ble_eq_true rfl) [(a0, .inr (7, [.int 0, .ref a0_buffer, .int (q7_length o0), .int (q7_at o0), .int (q7_from o0), .int (q7_kind o0), .int (q7_number o0), .int (q7_wrong o0), .ref a0_now, .ref a0_made, .ref a0_history, .ref a0_saved, .int (q7_entries o0), .int (q7_isSaved o0), .ref a0_closed, .ref a0_faces, .ref a0_rankOf, .ref a0_placeOf, .int (q7_faceMany o0), .int (q7_isLaid o0), .ref a0_counted, .ref a0_steps, .ref a0_onto, .ref a0_goes, .int (q7_found o0), .int (q7_images o0), .ref a0_firstImage, .int (q7_gathered o0)])), (a0_now, .inl (zI Z, 12, .inl (q7_now o0))), (a0_history, .inl (zI Z, 96, .inl (q7_history o0)))] rfl dX7_removeFacet_2 ?_
  refine g_aload_n C dX7_removeFacet_5 rfl 0 rfl ?_
  refine g_aload_n C dX7_removeFacet_6 rfl 0 rfl ?_
  refine g_iload_n C dX7_removeFacet_7 rfl 1 rfl ?_
  obtain ⟨r1, hr2, h⟩ := bd_of h
  refine g_callVi C (kX7_isFacet l Z a0 a0_buffer a0_now a0_made a0_history a0_saved a0_closed a0_faces a0_rankOf a0_placeOf a0_counted a0_steps a0_onto a0_goes a0_firstImage (s7_thrown o0 0) p1 r1 hr2) 0 rfl (ci := 7) rfl rfl myX7_isFacet 223 mw_6_80 rfl [0, 1] [2] [1, 2, 0] (wr := [(a0_history, .inl (zI Z, 96, .inl (q7_history o0)))]) rfl rfl (by decide) (by decide) (by decide) [(a0, .inr (7, [.int 0, .ref a0_buffer, .int (q7_length o0), .int (q7_at o0), .int (q7_from o0), .int (q7_kind o0), .int (q7_number o0), .int (q7_wrong o0), .ref a0_now, .ref a0_made, .ref a0_history, .ref a0_saved, .int (q7_entries o0), .int (q7_isSaved o0), .ref a0_closed, .ref a0_faces, .ref a0_rankOf, .ref a0_placeOf, .int (q7_faceMany o0), .int (q7_isLaid o0), .ref a0_counted, .ref a0_steps, .ref a0_onto, .ref a0_goes, .int (q7_found o0), .int (q7_images o0), .ref a0_firstImage, .int (q7_gathered o0)])), (a0_now, .inl (zI Z, 12, .inl (q7_now o0))), (a0_history, .inl (zI Z, 96, .inl (q7_history o0)))] rfl (by decide) (Nat.le_of_ble_eq_true rfl) (by rw [hR]; exact Nat.le_of_ble_eq_true rfl) (by rw [hR]; exact Nat.le_of_ble_eq_true rfl) ⟨by rw [hR]; exact Nat.le_of_ble_eq_true rfl, by rw [hR]; exact Nat.le_of_ble_eq_true rfl⟩ rfl dX7_removeFacet_8 ?_
  refine g_iconst C 1 dX7_removeFacet_11 (by decide) ?_
  obtain ⟨r3, hr4, h⟩ := bd_of h
  refine g_callVi C (kX7_fails l Z a0 a0_buffer a0_now a0_made a0_history a0_saved a0_closed a0_faces a0_rankOf a0_placeOf a0_counted a0_steps a0_onto a0_goes a0_firstImage (s7_thrown o0 0) r1 1 r3 hr4) 0 rfl (ci := 7) rfl rfl myX7_fails 63 mw_5_181 rfl [0] [1, 2] [2, 0, 1] (wr := [(a0_now, .inl (zI Z, 12, .inl (q7_now o0))), (a0_history, .inl (zI Z, 96, .inl (q7_history o0)))]) rfl rfl (by decide) (by decide) (by decide) [(a0, .inr (7, [.int (q7_thrown r3.2), .ref a0_buffer, .int (q7_length o0), .int (q7_at o0), .int (q7_from o0), .int (q7_kind o0), .int (q7_number o0), .int (q7_wrong o0), .ref a0_now, .ref a0_made, .ref a0_history, .ref a0_saved, .int (q7_entries o0), .int (q7_isSaved o0), .ref a0_closed, .ref a0_faces, .ref a0_rankOf, .ref a0_placeOf, .int (q7_faceMany o0), .int (q7_isLaid o0), .ref a0_counted, .ref a0_steps, .ref a0_onto, .ref a0_goes, .int (q7_found o0), .int (q7_images o0), .ref a0_firstImage, .int (q7_gathered o0)])), (a0_now, .inl (zI Z, 12, .inl (q7_now o0))), (a0_history, .inl (zI Z, 96, .inl (q7_history o0)))] rfl (by decide) (Nat.le_of_ble_eq_true rfl) (by rw [hR]; exact Nat.le_of_ble_eq_true rfl) (by rw [hR]; exact Nat.le_of_ble_eq_true rfl) ⟨by rw [hR]; exact Nat.le_of_ble_eq_true rfl, by rw [hR]; exact Nat.le_of_ble_eq_true rfl⟩ rfl dX7_removeFacet_12 ?_
  refine g_if_eq C 20 dX7_removeFacet_15 (by decide) (fun c5 => ?_) (fun c5 => ?_)
  · replace h := it_t c5 h
    refine g_aload_n C dX7_removeFacet_20 rfl 0 rfl ?_
    obtain ⟨r6, hr7, h⟩ := bd_of h
    refine g_callVv C (kX7_record l Z a0 a0_buffer a0_now a0_made a0_history a0_saved a0_closed a0_faces a0_rankOf a0_placeOf a0_counted a0_steps a0_onto a0_goes a0_firstImage (s7_thrown o0 (q7_thrown r3.2)) r6 hr7) 0 rfl (ci := 7) rfl rfl myX7_record 226 mw_6_84 rfl [0, 1, 2] [] [0, 1, 2] (wr := []) rfl rfl (by decide) (by decide) (by decide) [(a0, .inr (7, [.int (q7_thrown r3.2), .ref a0_buffer, .int (q7_length o0), .int (q7_at o0), .int (q7_from o0), .int (q7_kind o0), .int (q7_number o0), .int (q7_wrong o0), .ref a0_now, .ref a0_made, .ref a0_history, .ref a0_saved, .int (q7_entries r6), .int (q7_isSaved o0), .ref a0_closed, .ref a0_faces, .ref a0_rankOf, .ref a0_placeOf, .int (q7_faceMany o0), .int (q7_isLaid r6), .ref a0_counted, .ref a0_steps, .ref a0_onto, .ref a0_goes, .int (q7_found o0), .int (q7_images o0), .ref a0_firstImage, .int (q7_gathered o0)])), (a0_now, .inl (zI Z, 12, .inl (q7_now o0))), (a0_history, .inl (zI Z, 96, .inl (q7_history r6)))] rfl (by decide) (Nat.le_of_ble_eq_true rfl) (by rw [hR]; exact Nat.le_of_ble_eq_true rfl) (by rw [hR]; exact Nat.le_of_ble_eq_true rfl) ⟨by rw [hR]; exact Nat.le_of_ble_eq_true rfl, by rw [hR]; exact Nat.le_of_ble_eq_true rfl⟩ rfl dX7_removeFacet_21 ?_
    refine g_aload_n C dX7_removeFacet_24 rfl 0 rfl ?_
    refine g_get C 7 13 gin7 0 rfl rfl 8 (by decide) mw_5_93 rfl rfl dX7_removeFacet_25 ?_
    refine g_iconst C 2 dX7_removeFacet_28 (by decide) ?_
    refine g_iload_n C dX7_removeFacet_29 rfl 1 rfl ?_
    refine g_iadd C dX7_removeFacet_30 ?_
    obtain ⟨hi8, h⟩ := ck_of h
    refine g_iald C 1 rfl hi8 dX7_removeFacet_31 ?_
    refine g_istore_n C dX7_removeFacet_32 rfl (by decide) [(2, .int ((q7_now o0) (ix (2 + p1)))), (0, .ref a0), (1, .int p1)] rfl ?_
    refine g_aload_n C dX7_removeFacet_33 rfl 1 rfl ?_
    refine g_iload_n C dX7_removeFacet_34 rfl 2 rfl ?_
    obtain ⟨r9, hr10, h⟩ := bd_of h
    refine g_callVv C (kX7_dropFacet l Z a0 a0_buffer a0_now a0_made a0_history a0_saved a0_closed a0_faces a0_rankOf a0_placeOf a0_counted a0_steps a0_onto a0_goes a0_firstImage (s7_isLaid (s7_entries (s7_history (s7_thrown o0 (q7_thrown r3.2)) (q7_history r6)) (q7_entries r6)) (q7_isLaid r6)) p1 r9 hr10) 0 rfl (ci := 7) rfl rfl myX7_dropFacet 232 mw_6_104 rfl [0, 1] [2] [1, 2, 0] (wr := [(a0_history, .inl (zI Z, 96, .inl (q7_history r6)))]) rfl rfl (by decide) (by decide) (by decide) [(a0, .inr (7, [.int (q7_thrown r3.2), .ref a0_buffer, .int (q7_length o0), .int (q7_at o0), .int (q7_from o0), .int (q7_kind o0), .int (q7_number o0), .int (q7_wrong o0), .ref a0_now, .ref a0_made, .ref a0_history, .ref a0_saved, .int (q7_entries r6), .int (q7_isSaved o0), .ref a0_closed, .ref a0_faces, .ref a0_rankOf, .ref a0_placeOf, .int (q7_faceMany o0), .int (q7_isLaid r6), .ref a0_counted, .ref a0_steps, .ref a0_onto, .ref a0_goes, .int (q7_found o0), .int (q7_images o0), .ref a0_firstImage, .int (q7_gathered o0)])), (a0_now, .inl (zI Z, 12, .inl (q7_now r9))), (a0_history, .inl (zI Z, 96, .inl (q7_history r6)))] rfl (by decide) (Nat.le_of_ble_eq_true rfl) (by rw [hR]; exact Nat.le_of_ble_eq_true rfl) (by rw [hR]; exact Nat.le_of_ble_eq_true rfl) ⟨by rw [hR]; exact Nat.le_of_ble_eq_true rfl, by rw [hR]; exact Nat.le_of_ble_eq_true rfl⟩ rfl dX7_removeFacet_35 ?_
    refine g_iload_n C dX7_removeFacet_38 rfl 0 rfl ?_
    obtain rfl := Option.some.inj h
    subst hQ
    exact g_iret C rfl hr hlk dX7_removeFacet_39 [0, 1, 2] rfl (by decide)
  · replace h := it_f c5 h
    refine g_iconst C 0 dX7_removeFacet_18 (by decide) ?_
    obtain rfl := Option.some.inj h
    subst hQ
    exact g_iret C rfl hr hlk dX7_removeFacet_19 [0, 1, 2] rfl (by decide)
def fX7_facetsWith_L4 (o0 : OX7) (p1 : Int32) (v1 : Int32 × Int32) : Option ((Int32 × Int32) ⊕ (Int32)) :=
  if ((q7_now o0) (ix 1)) ≤ v1.2 then (ex (some v1.1))
  else (ck (okI (2 + v1.2) 12) ((fX7_has ((q7_now o0) (ix (2 + v1.2))) p1).bind fun r5 =>
  (if r5 = 0 then (some (.inl ((v1.1 ||| 0), (v1.2 + 1))))
  else (some (.inl ((v1.1 ||| (jshl 1 v1.2)), (v1.2 + 1)))))))
def fX7_facetsWith (o0 : OX7) (p1 : Int32) : Option (Int32) :=
  lp (fX7_facetsWith_L4 o0 p1) lpN (0, 0)
theorem myX7_facetsWith : MYv yX7_facetsWith cX7_facetsWith 4 (some .int) 1 := ⟨mw_6_114, ms_58, mw_6_115, mw_1_9, ⟨by decide +kernel, by decide +kernel⟩, by decide +kernel⟩
set_option maxRecDepth 100000 in
set_option maxHeartbeats 4000000 in
theorem kX7_facetsWith (l : Launch) (Z : GZ) (a0 a0_buffer a0_now a0_made a0_history a0_saved a0_closed a0_faces a0_rankOf a0_placeOf a0_counted a0_steps a0_onto a0_goes a0_firstImage : Nat) (o0 : OX7) (p1 : Int32) (res : Int32) (h : fX7_facetsWith o0 p1 = some res) : MI l Z yX7_facetsWith cX7_facetsWith 4 .int 1 21 [.ref a0, .int p1] [(a0, .inr (7, [.int (q7_thrown o0), .ref a0_buffer, .int (q7_length o0), .int (q7_at o0), .int (q7_from o0), .int (q7_kind o0), .int (q7_number o0), .int (q7_wrong o0), .ref a0_now, .ref a0_made, .ref a0_history, .ref a0_saved, .int (q7_entries o0), .int (q7_isSaved o0), .ref a0_closed, .ref a0_faces, .ref a0_rankOf, .ref a0_placeOf, .int (q7_faceMany o0), .int (q7_isLaid o0), .ref a0_counted, .ref a0_steps, .ref a0_onto, .ref a0_goes, .int (q7_found o0), .int (q7_images o0), .ref a0_firstImage, .int (q7_gathered o0)])), (a0_now, .inl (zI Z, 12, .inl (q7_now o0)))] res [(a0, .inr (7, [.int (q7_thrown o0), .ref a0_buffer, .int (q7_length o0), .int (q7_at o0), .int (q7_from o0), .int (q7_kind o0), .int (q7_number o0), .int (q7_wrong o0), .ref a0_now, .ref a0_made, .ref a0_history, .ref a0_saved, .int (q7_entries o0), .int (q7_isSaved o0), .ref a0_closed, .ref a0_faces, .ref a0_rankOf, .ref a0_placeOf, .int (q7_faceMany o0), .int (q7_isLaid o0), .ref a0_counted, .ref a0_steps, .ref a0_onto, .ref a0_goes, .int (q7_found o0), .int (q7_images o0), .ref a0_firstImage, .int (q7_gathered o0)])), (a0_now, .inl (zI Z, 12, .inl (q7_now o0)))] := by
  refine MI_of (by decide +kernel) (Nat.le_of_ble_eq_true rfl) (fun {p e s m args below meth c} A R hR Q hQ C hr hlk => ?_)
  unfold fX7_facetsWith at h
  refine g_lv [0, 1] [(0, .ref a0), (1, .int p1)] rfl ?_
  refine g_iconst C 0 dX7_facetsWith_0 (by decide) ?_
  refine g_istore_n C dX7_facetsWith_1 rfl (by decide) [(2, .int 0), (0, .ref a0), (1, .int p1)] rfl ?_
  refine g_iconst C 0 dX7_facetsWith_2 (by decide) ?_
  refine g_istore_n C dX7_facetsWith_3 rfl (by decide) [(3, .int 0), (2, .int 0), (0, .ref a0), (1, .int p1)] rfl ?_
  refine g_lv [2, 3, 1, 0] [(0, .ref a0), (1, .int p1), (2, .int 0), (3, .int 0)] rfl ?_
  refine g_loop (lvf := fun v1 => [(0, .ref a0), (1, .int p1), (2, .int v1.1), (3, .int v1.2)]) (wsf := fun v1 => [(a0, .inr (7, [.int (q7_thrown o0), .ref a0_buffer, .int (q7_length o0), .int (q7_at o0), .int (q7_from o0), .int (q7_kind o0), .int (q7_number o0), .int (q7_wrong o0), .ref a0_now, .ref a0_made, .ref a0_history, .ref a0_saved, .int (q7_entries o0), .int (q7_isSaved o0), .ref a0_closed, .ref a0_faces, .ref a0_rankOf, .ref a0_placeOf, .int (q7_faceMany o0), .int (q7_isLaid o0), .ref a0_counted, .ref a0_steps, .ref a0_onto, .ref a0_goes, .int (q7_found o0), .int (q7_images o0), .ref a0_firstImage, .int (q7_gathered o0)])), (a0_now, .inl (zI Z, 12, .inl (q7_now o0)))]) h (fun v1 y1 h hk1 hx1 => ?_)
  refine g_eq (lv1 := [(0, .ref a0), (1, .int p1), (2, .int v1.1), (3, .int v1.2)]) (st1 := []) (ws1 := [(a0, .inr (7, [.int (q7_thrown o0), .ref a0_buffer, .int (q7_length o0), .int (q7_at o0), .int (q7_from o0), .int (q7_kind o0), .int (q7_number o0), .int (q7_wrong o0), .ref a0_now, .ref a0_made, .ref a0_history, .ref a0_saved, .int (q7_entries o0), .int (q7_isSaved o0), .ref a0_closed, .ref a0_faces, .ref a0_rankOf, .ref a0_placeOf, .int (q7_faceMany o0), .int (q7_isLaid o0), .ref a0_counted, .ref a0_steps, .ref a0_onto, .ref a0_goes, .int (q7_found o0), .int (q7_images o0), .ref a0_firstImage, .int (q7_gathered o0)])), (a0_now, .inl (zI Z, 12, .inl (q7_now o0)))]) rfl rfl rfl rfl ?_
  unfold fX7_facetsWith_L4 at h
  refine g_iload_n C dX7_facetsWith_4 rfl 3 rfl ?_
  refine g_aload_n C dX7_facetsWith_5 rfl 0 rfl ?_
  refine g_get C 7 13 gin7 0 rfl rfl 8 (by decide) mw_5_93 rfl rfl dX7_facetsWith_6 ?_
  refine g_iconst C 1 dX7_facetsWith_9 (by decide) ?_
  refine g_iald C 1 rfl (by decide) dX7_facetsWith_10 ?_
  refine g_icmp_ge C 45 dX7_facetsWith_11 (by decide) (fun c2 => ?_) (fun c2 => ?_)
  · replace h := it_t c2 h
    obtain ⟨r3, h, hy⟩ := ex_of h
    rw [hx1 r3 hy] at h
    refine g_iload_n C dX7_facetsWith_45 rfl 2 rfl ?_
    obtain rfl := Option.some.inj h
    subst hQ
    exact g_iret C rfl hr hlk dX7_facetsWith_46 [0, 1] rfl (by decide)
  · replace h := it_f c2 h
    refine g_iload_n C dX7_facetsWith_14 rfl 2 rfl ?_
    refine g_aload_n C dX7_facetsWith_15 rfl 0 rfl ?_
    refine g_get C 7 13 gin7 0 rfl rfl 8 (by decide) mw_5_93 rfl rfl dX7_facetsWith_16 ?_
    refine g_iconst C 2 dX7_facetsWith_19 (by decide) ?_
    refine g_iload_n C dX7_facetsWith_20 rfl 3 rfl ?_
    refine g_iadd C dX7_facetsWith_21 ?_
    obtain ⟨hi4, h⟩ := ck_of h
    refine g_iald C 1 rfl hi4 dX7_facetsWith_22 ?_
    refine g_iload_n C dX7_facetsWith_23 rfl 1 rfl ?_
    obtain ⟨r5, hr6, h⟩ := bd_of h
    refine g_callSi C (kX7_has l Z ((q7_now o0) (ix (2 + v1.2))) p1 r5 hr6) myX7_has 165 mw_6_45 rfl [] [0, 1] [0, 1] (wr := [(a0, .inr (7, [.int (q7_thrown o0), .ref a0_buffer, .int (q7_length o0), .int (q7_at o0), .int (q7_from o0), .int (q7_kind o0), .int (q7_number o0), .int (q7_wrong o0), .ref a0_now, .ref a0_made, .ref a0_history, .ref a0_saved, .int (q7_entries o0), .int (q7_isSaved o0), .ref a0_closed, .ref a0_faces, .ref a0_rankOf, .ref a0_placeOf, .int (q7_faceMany o0), .int (q7_isLaid o0), .ref a0_counted, .ref a0_steps, .ref a0_onto, .ref a0_goes, .int (q7_found o0), .int (q7_images o0), .ref a0_firstImage, .int (q7_gathered o0)])), (a0_now, .inl (zI Z, 12, .inl (q7_now o0)))]) rfl rfl (by decide) (by decide) (by decide) [(a0, .inr (7, [.int (q7_thrown o0), .ref a0_buffer, .int (q7_length o0), .int (q7_at o0), .int (q7_from o0), .int (q7_kind o0), .int (q7_number o0), .int (q7_wrong o0), .ref a0_now, .ref a0_made, .ref a0_history, .ref a0_saved, .int (q7_entries o0), .int (q7_isSaved o0), .ref a0_closed, .ref a0_faces, .ref a0_rankOf, .ref a0_placeOf, .int (q7_faceMany o0), .int (q7_isLaid o0), .ref a0_counted, .ref a0_steps, .ref a0_onto, .ref a0_goes, .int (q7_found o0), .int (q7_images o0), .ref a0_firstImage, .int (q7_gathered o0)])), (a0_now, .inl (zI Z, 12, .inl (q7_now o0)))] rfl (by decide) (Nat.le_of_ble_eq_true rfl) (by rw [hR]; exact Nat.le_of_ble_eq_true rfl) (by rw [hR]; exact Nat.le_of_ble_eq_true rfl) ⟨by rw [hR]; exact Nat.le_of_ble_eq_true rfl, by rw [hR]; exact Nat.le_of_ble_eq_true rfl⟩ rfl dX7_facetsWith_24 ?_
    refine g_if_eq C 36 dX7_facetsWith_27 (by decide) (fun c7 => ?_) (fun c7 => ?_)
    · replace h := it_t c7 h
      refine g_iconst C 0 dX7_facetsWith_36 (by decide) ?_
      refine g_ior C dX7_facetsWith_37 ?_
      refine g_istore_n C dX7_facetsWith_38 rfl (by decide) [(2, .int (v1.1 ||| 0)), (0, .ref a0), (1, .int p1), (3, .int v1.2)] rfl ?_
      refine g_iinc C (v1.2 + 1) dX7_facetsWith_39 3 rfl rfl (by decide) [(3, .int (v1.2 + 1)), (2, .int (v1.1 ||| 0)), (0, .ref a0), (1, .int p1)] rfl ?_
      refine g_goto C 4 dX7_facetsWith_42 (by decide) ?_
      refine g_lv [2, 3, 1, 0] [(0, .ref a0), (1, .int p1), (2, .int (v1.1 ||| 0)), (3, .int (v1.2 + 1))] rfl ?_
      exact hk1 ((v1.1 ||| 0), (v1.2 + 1)) (Option.some.inj h).symm
    · replace h := it_f c7 h
      refine g_iconst C 1 dX7_facetsWith_30 (by decide) ?_
      refine g_iload_n C dX7_facetsWith_31 rfl 3 rfl ?_
      refine g_ishl C dX7_facetsWith_32 ?_
      refine g_goto C 37 dX7_facetsWith_33 (by decide) ?_
      refine g_ior C dX7_facetsWith_37 ?_
      refine g_istore_n C dX7_facetsWith_38 rfl (by decide) [(2, .int (v1.1 ||| (jshl 1 v1.2))), (0, .ref a0), (1, .int p1), (3, .int v1.2)] rfl ?_
      refine g_iinc C (v1.2 + 1) dX7_facetsWith_39 3 rfl rfl (by decide) [(3, .int (v1.2 + 1)), (2, .int (v1.1 ||| (jshl 1 v1.2))), (0, .ref a0), (1, .int p1)] rfl ?_
      refine g_goto C 4 dX7_facetsWith_42 (by decide) ?_
      refine g_lv [2, 3, 1, 0] [(0, .ref a0), (1, .int p1), (2, .int (v1.1 ||| (jshl 1 v1.2))), (3, .int (v1.2 + 1))] rfl ?_
      exact hk1 ((v1.1 ||| (jshl 1 v1.2)), (v1.2 + 1)) (Option.some.inj h).symm
def fX7_dual_L43 (o0 : OX7) (r3 : Int32 × OX7) (r6 : OX7) (v10 : Int32 × (Nat → Int32)) : Option ((Int32 × (Nat → Int32)) ⊕ (Int32 × OX7)) :=
  if ((q7_now o0) (ix 0)) ≤ v10.1 then (ex ((fX7_takeMade (s7_isLaid (s7_entries (s7_history (s7_made (s7_thrown o0 (q7_thrown r3.2)) v10.2) (q7_history r6)) (q7_entries r6)) (q7_isLaid r6))).bind fun r13 =>
  ((fX7_faceManyNow (s7_isLaid (s7_entries (s7_history (s7_made (s7_now (s7_thrown o0 (q7_thrown r3.2)) (q7_now r13)) v10.2) (q7_history r6)) (q7_entries r6)) (q7_isLaid r13))).bind fun r15 =>
  (some (r15.1, (s7_isLaid (s7_faceMany (s7_placeOf (s7_rankOf (s7_faces (s7_closed (s7_entries (s7_history (s7_made (s7_now (s7_thrown o0 (q7_thrown r3.2)) (q7_now r13)) v10.2) (q7_history r6)) (q7_entries r6)) (q7_closed r15.2)) (q7_faces r15.2)) (q7_rankOf r15.2)) (q7_placeOf r15.2)) (q7_faceMany r15.2)) (q7_isLaid r15.2)))))))
  else ((fX7_facetsWith (s7_isLaid (s7_entries (s7_history (s7_made (s7_thrown o0 (q7_thrown r3.2)) v10.2) (q7_history r6)) (q7_entries r6)) (q7_isLaid r6)) v10.1).bind fun r17 =>
  ((fX7_add (s7_isLaid (s7_entries (s7_history (s7_made (s7_thrown o0 (q7_thrown r3.2)) v10.2) (q7_history r6)) (q7_entries r6)) (q7_isLaid r6)) r17).bind fun r19 =>
  (some (.inl ((v10.1 + 1), (q7_made r19))))))
def fX7_dual (o0 : OX7) : Option (Int32 × OX7) :=
  (fX7_in ((q7_now o0) (ix 1)) 1 8).bind fun r1 =>
  ((fX7_fails (s7_thrown o0 0) r1 1).bind fun r3 =>
  (if r3.1 = 0 then ((fX7_record (s7_thrown o0 (q7_thrown r3.2))).bind fun r6 =>
  ((fX7_begin (s7_isLaid (s7_entries (s7_history (s7_thrown o0 (q7_thrown r3.2)) (q7_history r6)) (q7_entries r6)) (q7_isLaid r6)) ((q7_now o0) (ix 1))).bind fun r8 =>
  (lp (fX7_dual_L43 o0 r3 r6) lpN (0, (q7_made r8)))))
  else (some (0, (s7_thrown o0 (q7_thrown r3.2))))))
theorem myX7_dual : MYv yX7_dual cX7_dual 2 (some .int) 0 := ⟨mw_6_109, mw_6_110, mw_6_111, mw_1_9, ⟨by decide +kernel, by decide +kernel⟩, by decide +kernel⟩
set_option maxRecDepth 100000 in
set_option maxHeartbeats 4000000 in
theorem kX7_dual (l : Launch) (Z : GZ) (a0 a0_buffer a0_now a0_made a0_history a0_saved a0_closed a0_faces a0_rankOf a0_placeOf a0_counted a0_steps a0_onto a0_goes a0_firstImage : Nat) (o0 : OX7) (res : Int32 × OX7) (h : fX7_dual o0 = some res) : MI l Z yX7_dual cX7_dual 2 .int 5 109 [.ref a0] [(a0, .inr (7, [.int (q7_thrown o0), .ref a0_buffer, .int (q7_length o0), .int (q7_at o0), .int (q7_from o0), .int (q7_kind o0), .int (q7_number o0), .int (q7_wrong o0), .ref a0_now, .ref a0_made, .ref a0_history, .ref a0_saved, .int (q7_entries o0), .int (q7_isSaved o0), .ref a0_closed, .ref a0_faces, .ref a0_rankOf, .ref a0_placeOf, .int (q7_faceMany o0), .int (q7_isLaid o0), .ref a0_counted, .ref a0_steps, .ref a0_onto, .ref a0_goes, .int (q7_found o0), .int (q7_images o0), .ref a0_firstImage, .int (q7_gathered o0)])), (a0_now, .inl (zI Z, 12, .inl (q7_now o0))), (a0_made, .inl (zI Z, 12, .inl (q7_made o0))), (a0_history, .inl (zI Z, 96, .inl (q7_history o0))), (a0_closed, .inl (zI Z, 256, .inl (q7_closed o0))), (a0_faces, .inl (zI Z, 256, .inl (q7_faces o0))), (a0_rankOf, .inl (zI Z, 256, .inl (q7_rankOf o0))), (a0_placeOf, .inl (zI Z, 256, .inl (q7_placeOf o0)))] res.1 [(a0, .inr (7, [.int (q7_thrown res.2), .ref a0_buffer, .int (q7_length o0), .int (q7_at o0), .int (q7_from o0), .int (q7_kind o0), .int (q7_number o0), .int (q7_wrong o0), .ref a0_now, .ref a0_made, .ref a0_history, .ref a0_saved, .int (q7_entries res.2), .int (q7_isSaved o0), .ref a0_closed, .ref a0_faces, .ref a0_rankOf, .ref a0_placeOf, .int (q7_faceMany res.2), .int (q7_isLaid res.2), .ref a0_counted, .ref a0_steps, .ref a0_onto, .ref a0_goes, .int (q7_found o0), .int (q7_images o0), .ref a0_firstImage, .int (q7_gathered o0)])), (a0_now, .inl (zI Z, 12, .inl (q7_now res.2))), (a0_made, .inl (zI Z, 12, .inl (q7_made res.2))), (a0_history, .inl (zI Z, 96, .inl (q7_history res.2))), (a0_closed, .inl (zI Z, 256, .inl (q7_closed res.2))), (a0_faces, .inl (zI Z, 256, .inl (q7_faces res.2))), (a0_rankOf, .inl (zI Z, 256, .inl (q7_rankOf res.2))), (a0_placeOf, .inl (zI Z, 256, .inl (q7_placeOf res.2)))] := by
  refine MI_of (by decide +kernel) (Nat.le_of_ble_eq_true rfl) (fun {p e s m args below meth c} A R hR Q hQ C hr hlk => ?_)
  unfold fX7_dual at h
  refine g_lv [0] [(0, .ref a0)] rfl ?_
  refine g_aload_n C dX7_dual_0 rfl 0 rfl ?_
  refine g_iconst C 0 dX7_dual_1 (by decide) ?_
  refine g_put C 7 52 gin7 tyX7 tyX7_ok nmX7 0 rfl rfl 0 (by decide) mw_5_85 rfl rfl (ty := .int) (by decide +kernel) rfl rfl (Nat.le_of_ble_eq_true rfl) [(a0, .inr (7, [.int 0, .ref a0_buffer, .int (q7_length o0), .int (q7_at o0), .int (q7_from o0), .int (q7_kind o0), .int (q7_number o0), .int (q7_wrong o0), .ref a0_now, .ref a0_made, .ref a0_history, .ref a0_saved, .int (q7_entries o0), .int (q7_isSaved o0), .ref a0_closed, .ref a0_faces, .ref a0_rankOf, .ref a0_placeOf, .int (q7_faceMany o0), .int (q7_isLaid o0), .ref a0_counted, .ref a0_steps, .ref a0_onto, .ref a0_goes, .int (q7_found o0), .int (q7_images o0), .ref a0_firstImage, .int (q7_gathered o0)])), (a0_now, .inl (zI Z, 12, .inl (q7_now o0))), (a0_made, .inl (zI Z, 12, .inl (q7_made o0))), (a0_history, .inl (zI Z, 96, .inl (q7_history o0))), (a0_closed, .inl (zI Z, 256, .inl (q7_closed o0))), (a0_faces, .inl (zI Z, 256, .inl (q7_faces o0))), (a0_rankOf, .inl (zI Z, 256, .inl (q7_rankOf o0))), (a0_placeOf, .inl (zI Z, 256, .inl (q7_placeOf o0)))] rfl dX7_dual_2 ?_
  refine g_aload_n C dX7_dual_5 rfl 0 rfl ?_
  refine g_aload_n C dX7_dual_6 rfl 0 rfl ?_
  refine g_get C 7 13 gin7 0 rfl rfl 8 (by decide) mw_5_93 rfl rfl dX7_dual_7 ?_
  refine g_iconst C 1 dX7_dual_10 (by decide) ?_
  refine g_iald C 1 rfl (by decide) dX7_dual_11 ?_
  refine g_iconst C 1 dX7_dual_12 (by decide) ?_
  refine g_bipush C 8 dX7_dual_13 (by decide) ?_
  obtain ⟨r1, hr2, h⟩ := bd_of h
  refine g_callSi C (kX7_in l Z ((q7_now o0) (ix 1)) 1 8 r1 hr2) myX7_in 67 mw_5_189 rfl [] [0, 1, 2, 3, 4, 5, 6, 7] [0, 1, 2, 3, 4, 5, 6, 7] (wr := [(a0, .inr (7, [.int 0, .ref a0_buffer, .int (q7_length o0), .int (q7_at o0), .int (q7_from o0), .int (q7_kind o0), .int (q7_number o0), .int (q7_wrong o0), .ref a0_now, .ref a0_made, .ref a0_history, .ref a0_saved, .int (q7_entries o0), .int (q7_isSaved o0), .ref a0_closed, .ref a0_faces, .ref a0_rankOf, .ref a0_placeOf, .int (q7_faceMany o0), .int (q7_isLaid o0), .ref a0_counted, .ref a0_steps, .ref a0_onto, .ref a0_goes, .int (q7_found o0), .int (q7_images o0), .ref a0_firstImage, .int (q7_gathered o0)])), (a0_now, .inl (zI Z, 12, .inl (q7_now o0))), (a0_made, .inl (zI Z, 12, .inl (q7_made o0))), (a0_history, .inl (zI Z, 96, .inl (q7_history o0))), (a0_closed, .inl (zI Z, 256, .inl (q7_closed o0))), (a0_faces, .inl (zI Z, 256, .inl (q7_faces o0))), (a0_rankOf, .inl (zI Z, 256, .inl (q7_rankOf o0))), (a0_placeOf, .inl (zI Z, 256, .inl (q7_placeOf o0)))]) rfl rfl (by decide) (by decide) (by decide) [(a0, .inr (7, [.int 0, .ref a0_buffer, .int (q7_length o0), .int (q7_at o0), .int (q7_from o0), .int (q7_kind o0), .int (q7_number o0), .int (q7_wrong o0), .ref a0_now, .ref a0_made, .ref a0_history, .ref a0_saved, .int (q7_entries o0), .int (q7_isSaved o0), .ref a0_closed, .ref a0_faces, .ref a0_rankOf, .ref a0_placeOf, .int (q7_faceMany o0), .int (q7_isLaid o0), .ref a0_counted, .ref a0_steps, .ref a0_onto, .ref a0_goes, .int (q7_found o0), .int (q7_images o0), .ref a0_firstImage, .int (q7_gathered o0)])), (a0_now, .inl (zI Z, 12, .inl (q7_now o0))), (a0_made, .inl (zI Z, 12, .inl (q7_made o0))), (a0_history, .inl (zI Z, 96, .inl (q7_history o0))), (a0_closed, .inl (zI Z, 256, .inl (q7_closed o0))), (a0_faces, .inl (zI Z, 256, .inl (q7_faces o0))), (a0_rankOf, .inl (zI Z, 256, .inl (q7_rankOf o0))), (a0_placeOf, .inl (zI Z, 256, .inl (q7_placeOf o0)))] rfl (by decide) (Nat.le_of_ble_eq_true rfl) (by rw [hR]; exact Nat.le_of_ble_eq_true rfl) (by rw [hR]; exact Nat.le_of_ble_eq_true rfl) ⟨by rw [hR]; exact Nat.le_of_ble_eq_true rfl, by rw [hR]; exact Nat.le_of_ble_eq_true rfl⟩ rfl dX7_dual_15 ?_
  refine g_iconst C 1 dX7_dual_18 (by decide) ?_
  obtain ⟨r3, hr4, h⟩ := bd_of h
  refine g_callVi C (kX7_fails l Z a0 a0_buffer a0_now a0_made a0_history a0_saved a0_closed a0_faces a0_rankOf a0_placeOf a0_counted a0_steps a0_onto a0_goes a0_firstImage (s7_thrown o0 0) r1 1 r3 hr4) 0 rfl (ci := 7) rfl rfl myX7_fails 63 mw_5_181 rfl [0] [1, 2, 3, 4, 5, 6, 7] [7, 0, 1, 2, 3, 4, 5, 6] (wr := [(a0_now, .inl (zI Z, 12, .inl (q7_now o0))), (a0_made, .inl (zI Z, 12, .inl (q7_made o0))), (a0_history, .inl (zI Z, 96, .inl (q7_history o0))), (a0_closed, .inl (zI Z, 256, .inl (q7_closed o0))), (a0_faces, .inl (zI Z, 256, .inl (q7_faces o0))), (a0_rankOf, .inl (zI Z, 256, .inl (q7_rankOf o0))), (a0_placeOf, .inl (zI Z, 256, .inl (q7_placeOf o0)))]) rfl rfl (by decide) (by decide) (by decide) [(a0, .inr (7, [.int (q7_thrown r3.2), .ref a0_buffer, .int (q7_length o0), .int (q7_at o0), .int (q7_from o0), .int (q7_kind o0), .int (q7_number o0), .int (q7_wrong o0), .ref a0_now, .ref a0_made, .ref a0_history, .ref a0_saved, .int (q7_entries o0), .int (q7_isSaved o0), .ref a0_closed, .ref a0_faces, .ref a0_rankOf, .ref a0_placeOf, .int (q7_faceMany o0), .int (q7_isLaid o0), .ref a0_counted, .ref a0_steps, .ref a0_onto, .ref a0_goes, .int (q7_found o0), .int (q7_images o0), .ref a0_firstImage, .int (q7_gathered o0)])), (a0_now, .inl (zI Z, 12, .inl (q7_now o0))), (a0_made, .inl (zI Z, 12, .inl (q7_made o0))), (a0_history, .inl (zI Z, 96, .inl (q7_history o0))), (a0_closed, .inl (zI Z, 256, .inl (q7_closed o0))), (a0_faces, .inl (zI Z, 256, .inl (q7_faces o0))), (a0_rankOf, .inl (zI Z, 256, .inl (q7_rankOf o0))), (a0_placeOf, .inl (zI Z, 256, .inl (q7_placeOf o0)))] rfl (by decide) (Nat.le_of_ble_eq_true rfl) (by rw [hR]; exact Nat.le_of_ble_eq_true rfl) (by rw [hR]; exact Nat.le_of_ble_eq_true rfl) ⟨by rw [hR]; exact Nat.le_of_ble_eq_true rfl, by rw [hR]; exact Nat.le_of_ble_eq_true rfl⟩ rfl dX7_dual_19 ?_
  refine g_if_eq C 27 dX7_dual_22 (by decide) (fun c5 => ?_) (fun c5 => ?_)
  · replace h := it_t c5 h
    refine g_aload_n C dX7_dual_27 rfl 0 rfl ?_
    obtain ⟨r6, hr7, h⟩ := bd_of h
    refine g_callVv C (kX7_record l Z a0 a0_buffer a0_now a0_made a0_history a0_saved a0_closed a0_faces a0_rankOf a0_placeOf a0_counted a0_steps a0_onto a0_goes a0_firstImage (s7_thrown o0 (q7_thrown r3.2)) r6 hr7) 0 rfl (ci := 7) rfl rfl myX7_record 226 mw_6_84 rfl [0, 1, 3] [2, 4, 5, 6, 7] [5, 6, 0, 7, 1, 2, 3, 4] (wr := [(a0_made, .inl (zI Z, 12, .inl (q7_made o0))), (a0_closed, .inl (zI Z, 256, .inl (q7_closed o0))), (a0_faces, .inl (zI Z, 256, .inl (q7_faces o0))), (a0_rankOf, .inl (zI Z, 256, .inl (q7_rankOf o0))), (a0_placeOf, .inl (zI Z, 256, .inl (q7_placeOf o0)))]) rfl rfl (by decide) (by decide) (by decide) [(a0, .inr (7, [.int (q7_thrown r3.2), .ref a0_buffer, .int (q7_length o0), .int (q7_at o0), .int (q7_from o0), .int (q7_kind o0), .int (q7_number o0), .int (q7_wrong o0), .ref a0_now, .ref a0_made, .ref a0_history, .ref a0_saved, .int (q7_entries r6), .int (q7_isSaved o0), .ref a0_closed, .ref a0_faces, .ref a0_rankOf, .ref a0_placeOf, .int (q7_faceMany o0), .int (q7_isLaid r6), .ref a0_counted, .ref a0_steps, .ref a0_onto, .ref a0_goes, .int (q7_found o0), .int (q7_images o0), .ref a0_firstImage, .int (q7_gathered o0)])), (a0_now, .inl (zI Z, 12, .inl (q7_now o0))), (a0_made, .inl (zI Z, 12, .inl (q7_made o0))), (a0_history, .inl (zI Z, 96, .inl (q7_history r6))), (a0_closed, .inl (zI Z, 256, .inl (q7_closed o0))), (a0_faces, .inl (zI Z, 256, .inl (q7_faces o0))), (a0_rankOf, .inl (zI Z, 256, .inl (q7_rankOf o0))), (a0_placeOf, .inl (zI Z, 256, .inl (q7_placeOf o0)))] rfl (by decide) (Nat.le_of_ble_eq_true rfl) (by rw [hR]; exact Nat.le_of_ble_eq_true rfl) (by rw [hR]; exact Nat.le_of_ble_eq_true rfl) ⟨by rw [hR]; exact Nat.le_of_ble_eq_true rfl, by rw [hR]; exact Nat.le_of_ble_eq_true rfl⟩ rfl dX7_dual_28 ?_
    refine g_aload_n C dX7_dual_31 rfl 0 rfl ?_
    refine g_aload_n C dX7_dual_32 rfl 0 rfl ?_
    refine g_get C 7 13 gin7 0 rfl rfl 8 (by decide) mw_5_93 rfl rfl dX7_dual_33 ?_
    refine g_iconst C 1 dX7_dual_36 (by decide) ?_
    refine g_iald C 1 rfl (by decide) dX7_dual_37 ?_
    obtain ⟨r8, hr9, h⟩ := bd_of h
    refine g_callVv C (kX7_begin l Z a0 a0_buffer a0_now a0_made a0_history a0_saved a0_closed a0_faces a0_rankOf a0_placeOf a0_counted a0_steps a0_onto a0_goes a0_firstImage (s7_isLaid (s7_entries (s7_history (s7_thrown o0 (q7_thrown r3.2)) (q7_history r6)) (q7_entries r6)) (q7_isLaid r6)) ((q7_now o0) (ix 1)) r8 hr9) 0 rfl (ci := 7) rfl rfl myX7_begin 123 mw_6_5 rfl [0, 2] [1, 3, 4, 5, 6, 7] [6, 0, 7, 1, 2, 3, 4, 5] (wr := [(a0_now, .inl (zI Z, 12, .inl (q7_now o0))), (a0_history, .inl (zI Z, 96, .inl (q7_history r6))), (a0_closed, .inl (zI Z, 256, .inl (q7_closed o0))), (a0_faces, .inl (zI Z, 256, .inl (q7_faces o0))), (a0_rankOf, .inl (zI Z, 256, .inl (q7_rankOf o0))), (a0_placeOf, .inl (zI Z, 256, .inl (q7_placeOf o0)))]) rfl rfl (by decide) (by decide) (by decide) [(a0, .inr (7, [.int (q7_thrown r3.2), .ref a0_buffer, .int (q7_length o0), .int (q7_at o0), .int (q7_from o0), .int (q7_kind o0), .int (q7_number o0), .int (q7_wrong o0), .ref a0_now, .ref a0_made, .ref a0_history, .ref a0_saved, .int (q7_entries r6), .int (q7_isSaved o0), .ref a0_closed, .ref a0_faces, .ref a0_rankOf, .ref a0_placeOf, .int (q7_faceMany o0), .int (q7_isLaid r6), .ref a0_counted, .ref a0_steps, .ref a0_onto, .ref a0_goes, .int (q7_found o0), .int (q7_images o0), .ref a0_firstImage, .int (q7_gathered o0)])), (a0_now, .inl (zI Z, 12, .inl (q7_now o0))), (a0_made, .inl (zI Z, 12, .inl (q7_made r8))), (a0_history, .inl (zI Z, 96, .inl (q7_history r6))), (a0_closed, .inl (zI Z, 256, .inl (q7_closed o0))), (a0_faces, .inl (zI Z, 256, .inl (q7_faces o0))), (a0_rankOf, .inl (zI Z, 256, .inl (q7_rankOf o0))), (a0_placeOf, .inl (zI Z, 256, .inl (q7_placeOf o0)))] rfl (by decide) (Nat.le_of_ble_eq_true rfl) (by rw [hR]; exact Nat.le_of_ble_eq_true rfl) (by rw [hR]; exact Nat.le_of_ble_eq_true rfl) ⟨by rw [hR]; exact Nat.le_of_ble_eq_true rfl, by rw [hR]; exact Nat.le_of_ble_eq_true rfl⟩ rfl dX7_dual_38 ?_
    refine g_iconst C 0 dX7_dual_41 (by decide) ?_
    refine g_istore_n C dX7_dual_42 rfl (by decide) [(1, .int 0), (0, .ref a0)] rfl ?_
    refine g_lv [1, 0] [(0, .ref a0), (1, .int 0)] rfl ?_
    refine g_loop (lvf := fun v10 => [(0, .ref a0), (1, .int v10.1)]) (wsf := fun v10 => [(a0, .inr (7, [.int (q7_thrown r3.2), .ref a0_buffer, .int (q7_length o0), .int (q7_at o0), .int (q7_from o0), .int (q7_kind o0), .int (q7_number o0), .int (q7_wrong o0), .ref a0_now, .ref a0_made, .ref a0_history, .ref a0_saved, .int (q7_entries r6), .int (q7_isSaved o0), .ref a0_closed, .ref a0_faces, .ref a0_rankOf, .ref a0_placeOf, .int (q7_faceMany o0), .int (q7_isLaid r6), .ref a0_counted, .ref a0_steps, .ref a0_onto, .ref a0_goes, .int (q7_found o0), .int (q7_images o0), .ref a0_firstImage, .int (q7_gathered o0)])), (a0_now, .inl (zI Z, 12, .inl (q7_now o0))), (a0_made, .inl (zI Z, 12, .inl v10.2)), (a0_history, .inl (zI Z, 96, .inl (q7_history r6))), (a0_closed, .inl (zI Z, 256, .inl (q7_closed o0))), (a0_faces, .inl (zI Z, 256, .inl (q7_faces o0))), (a0_rankOf, .inl (zI Z, 256, .inl (q7_rankOf o0))), (a0_placeOf, .inl (zI Z, 256, .inl (q7_placeOf o0)))]) h (fun v10 y1 h hk1 hx1 => ?_)
    refine g_eq (lv1 := [(0, .ref a0), (1, .int v10.1)]) (st1 := []) (ws1 := [(a0, .inr (7, [.int (q7_thrown r3.2), .ref a0_buffer, .int (q7_length o0), .int (q7_at o0), .int (q7_from o0), .int (q7_kind o0), .int (q7_number o0), .int (q7_wrong o0), .ref a0_now, .ref a0_made, .ref a0_history, .ref a0_saved, .int (q7_entries r6), .int (q7_isSaved o0), .ref a0_closed, .ref a0_faces, .ref a0_rankOf, .ref a0_placeOf, .int (q7_faceMany o0), .int (q7_isLaid r6), .ref a0_counted, .ref a0_steps, .ref a0_onto, .ref a0_goes, .int (q7_found o0), .int (q7_images o0), .ref a0_firstImage, .int (q7_gathered o0)])), (a0_now, .inl (zI Z, 12, .inl (q7_now o0))), (a0_made, .inl (zI Z, 12, .inl v10.2)), (a0_history, .inl (zI Z, 96, .inl (q7_history r6))), (a0_closed, .inl (zI Z, 256, .inl (q7_closed o0))), (a0_faces, .inl (zI Z, 256, .inl (q7_faces o0))), (a0_rankOf, .inl (zI Z, 256, .inl (q7_rankOf o0))), (a0_placeOf, .inl (zI Z, 256, .inl (q7_placeOf o0)))]) rfl rfl rfl rfl ?_
    unfold fX7_dual_L43 at h
    refine g_iload_n C dX7_dual_43 rfl 1 rfl ?_
    refine g_aload_n C dX7_dual_44 rfl 0 rfl ?_
    refine g_get C 7 13 gin7 0 rfl rfl 8 (by decide) mw_5_93 rfl rfl dX7_dual_45 ?_
    refine g_iconst C 0 dX7_dual_48 (by decide) ?_
    refine g_iald C 1 rfl (by decide) dX7_dual_49 ?_
    refine g_icmp_ge C 68 dX7_dual_50 (by decide) (fun c11 => ?_) (fun c11 => ?_)
    · replace h := it_t c11 h
      obtain ⟨r12, h, hy⟩ := ex_of h
      rw [hx1 r12 hy] at h
      refine g_aload_n C dX7_dual_68 rfl 0 rfl ?_
      obtain ⟨r13, hr14, h⟩ := bd_of h
      refine g_callVv C (kX7_takeMade l Z a0 a0_buffer a0_now a0_made a0_history a0_saved a0_closed a0_faces a0_rankOf a0_placeOf a0_counted a0_steps a0_onto a0_goes a0_firstImage (s7_isLaid (s7_entries (s7_history (s7_made (s7_thrown o0 (q7_thrown r3.2)) v10.2) (q7_history r6)) (q7_entries r6)) (q7_isLaid r6)) r13 hr14) 0 rfl (ci := 7) rfl rfl myX7_takeMade 187 mw_6_52 rfl [0, 1, 2] [3, 4, 5, 6, 7] [5, 6, 7, 0, 1, 2, 3, 4] (wr := [(a0_history, .inl (zI Z, 96, .inl (q7_history r6))), (a0_closed, .inl (zI Z, 256, .inl (q7_closed o0))), (a0_faces, .inl (zI Z, 256, .inl (q7_faces o0))), (a0_rankOf, .inl (zI Z, 256, .inl (q7_rankOf o0))), (a0_placeOf, .inl (zI Z, 256, .inl (q7_placeOf o0)))]) rfl rfl (by decide) (by decide) (by decide) [(a0, .inr (7, [.int (q7_thrown r3.2), .ref a0_buffer, .int (q7_length o0), .int (q7_at o0), .int (q7_from o0), .int (q7_kind o0), .int (q7_number o0), .int (q7_wrong o0), .ref a0_now, .ref a0_made, .ref a0_history, .ref a0_saved, .int (q7_entries r6), .int (q7_isSaved o0), .ref a0_closed, .ref a0_faces, .ref a0_rankOf, .ref a0_placeOf, .int (q7_faceMany o0), .int (q7_isLaid r13), .ref a0_counted, .ref a0_steps, .ref a0_onto, .ref a0_goes, .int (q7_found o0), .int (q7_images o0), .ref a0_firstImage, .int (q7_gathered o0)])), (a0_now, .inl (zI Z, 12, .inl (q7_now r13))), (a0_made, .inl (zI Z, 12, .inl v10.2)), (a0_history, .inl (zI Z, 96, .inl (q7_history r6))), (a0_closed, .inl (zI Z, 256, .inl (q7_closed o0))), (a0_faces, .inl (zI Z, 256, .inl (q7_faces o0))), (a0_rankOf, .inl (zI Z, 256, .inl (q7_rankOf o0))), (a0_placeOf, .inl (zI Z, 256, .inl (q7_placeOf o0)))] rfl (by decide) (Nat.le_of_ble_eq_true rfl) (by rw [hR]; exact Nat.le_of_ble_eq_true rfl) (by rw [hR]; exact Nat.le_of_ble_eq_true rfl) ⟨by rw [hR]; exact Nat.le_of_ble_eq_true rfl, by rw [hR]; exact Nat.le_of_ble_eq_true rfl⟩ rfl dX7_dual_69 ?_
      refine g_aload_n C dX7_dual_72 rfl 0 rfl ?_
      obtain ⟨r15, hr16, h⟩ := bd_of h
      refine g_callVi C (kX7_faceManyNow l Z a0 a0_buffer a0_now a0_made a0_history a0_saved a0_closed a0_faces a0_rankOf a0_placeOf a0_counted a0_steps a0_onto a0_goes a0_firstImage (s7_isLaid (s7_entries (s7_history (s7_made (s7_now (s7_thrown o0 (q7_thrown r3.2)) (q7_now r13)) v10.2) (q7_history r6)) (q7_entries r6)) (q7_isLaid r13)) r15 hr16) 0 rfl (ci := 7) rfl rfl myX7_faceManyNow 238 mw_6_116 rfl [0, 1, 4, 5, 6, 7] [2, 3] [2, 3, 0, 1, 4, 5, 6, 7] (wr := [(a0_made, .inl (zI Z, 12, .inl v10.2)), (a0_history, .inl (zI Z, 96, .inl (q7_history r6)))]) rfl rfl (by decide) (by decide) (by decide) [(a0, .inr (7, [.int (q7_thrown r3.2), .ref a0_buffer, .int (q7_length o0), .int (q7_at o0), .int (q7_from o0), .int (q7_kind o0), .int (q7_number o0), .int (q7_wrong o0), .ref a0_now, .ref a0_made, .ref a0_history, .ref a0_saved, .int (q7_entries r6), .int (q7_isSaved o0), .ref a0_closed, .ref a0_faces, .ref a0_rankOf, .ref a0_placeOf, .int (q7_faceMany r15.2), .int (q7_isLaid r15.2), .ref a0_counted, .ref a0_steps, .ref a0_onto, .ref a0_goes, .int (q7_found o0), .int (q7_images o0), .ref a0_firstImage, .int (q7_gathered o0)])), (a0_now, .inl (zI Z, 12, .inl (q7_now r13))), (a0_made, .inl (zI Z, 12, .inl v10.2)), (a0_history, .inl (zI Z, 96, .inl (q7_history r6))), (a0_closed, .inl (zI Z, 256, .inl (q7_closed r15.2))), (a0_faces, .inl (zI Z, 256, .inl (q7_faces r15.2))), (a0_rankOf, .inl (zI Z, 256, .inl (q7_rankOf r15.2))), (a0_placeOf, .inl (zI Z, 256, .inl (q7_placeOf r15.2)))] rfl (by decide) (Nat.le_of_ble_eq_true rfl) (by rw [hR]; exact Nat.le_of_ble_eq_true rfl) (by rw [hR]; exact Nat.le_of_ble_eq_true rfl) ⟨by rw [hR]; exact Nat.le_of_ble_eq_true rfl, by rw [hR]; exact Nat.le_of_ble_eq_true rfl⟩ rfl dX7_dual_73 ?_
      obtain rfl := Option.some.inj h
      subst hQ
      exact g_iret C rfl hr hlk dX7_dual_76 [0, 1, 2, 3, 4, 5, 6, 7] rfl (by decide)
    · replace h := it_f c11 h
      refine g_aload_n C dX7_dual_53 rfl 0 rfl ?_
      refine g_aload_n C dX7_dual_54 rfl 0 rfl ?_
      refine g_iload_n C dX7_dual_55 rfl 1 rfl ?_
      obtain ⟨r17, hr18, h⟩ := bd_of h
      refine g_callVi C (kX7_facetsWith l Z a0 a0_buffer a0_now a0_made a0_history a0_saved a0_closed a0_faces a0_rankOf a0_placeOf a0_counted a0_steps a0_onto a0_goes a0_firstImage (s7_isLaid (s7_entries (s7_history (s7_made (s7_thrown o0 (q7_thrown r3.2)) v10.2) (q7_history r6)) (q7_entries r6)) (q7_isLaid r6)) v10.1 r17 hr18) 0 rfl (ci := 7) rfl rfl myX7_facetsWith 235 mw_6_112 rfl [0, 1] [2, 3, 4, 5, 6, 7] [6, 7, 0, 1, 2, 3, 4, 5] (wr := [(a0_made, .inl (zI Z, 12, .inl v10.2)), (a0_history, .inl (zI Z, 96, .inl (q7_history r6))), (a0_closed, .inl (zI Z, 256, .inl (q7_closed o0))), (a0_faces, .inl (zI Z, 256, .inl (q7_faces o0))), (a0_rankOf, .inl (zI Z, 256, .inl (q7_rankOf o0))), (a0_placeOf, .inl (zI Z, 256, .inl (q7_placeOf o0)))]) rfl rfl (by decide) (by decide) (by decide) [(a0, .inr (7, [.int (q7_thrown r3.2), .ref a0_buffer, .int (q7_length o0), .int (q7_at o0), .int (q7_from o0), .int (q7_kind o0), .int (q7_number o0), .int (q7_wrong o0), .ref a0_now, .ref a0_made, .ref a0_history, .ref a0_saved, .int (q7_entries r6), .int (q7_isSaved o0), .ref a0_closed, .ref a0_faces, .ref a0_rankOf, .ref a0_placeOf, .int (q7_faceMany o0), .int (q7_isLaid r6), .ref a0_counted, .ref a0_steps, .ref a0_onto, .ref a0_goes, .int (q7_found o0), .int (q7_images o0), .ref a0_firstImage, .int (q7_gathered o0)])), (a0_now, .inl (zI Z, 12, .inl (q7_now o0))), (a0_made, .inl (zI Z, 12, .inl v10.2)), (a0_history, .inl (zI Z, 96, .inl (q7_history r6))), (a0_closed, .inl (zI Z, 256, .inl (q7_closed o0))), (a0_faces, .inl (zI Z, 256, .inl (q7_faces o0))), (a0_rankOf, .inl (zI Z, 256, .inl (q7_rankOf o0))), (a0_placeOf, .inl (zI Z, 256, .inl (q7_placeOf o0)))] rfl (by decide) (Nat.le_of_ble_eq_true rfl) (by rw [hR]; exact Nat.le_of_ble_eq_true rfl) (by rw [hR]; exact Nat.le_of_ble_eq_true rfl) ⟨by rw [hR]; exact Nat.le_of_ble_eq_true rfl, by rw [hR]; exact Nat.le_of_ble_eq_true rfl⟩ rfl dX7_dual_56 ?_
      obtain ⟨r19, hr20, h⟩ := bd_of h
      refine g_callVv C (kX7_add l Z a0 a0_buffer a0_now a0_made a0_history a0_saved a0_closed a0_faces a0_rankOf a0_placeOf a0_counted a0_steps a0_onto a0_goes a0_firstImage (s7_isLaid (s7_entries (s7_history (s7_made (s7_thrown o0 (q7_thrown r3.2)) v10.2) (q7_history r6)) (q7_entries r6)) (q7_isLaid r6)) r17 r19 hr20) 0 rfl (ci := 7) rfl rfl myX7_add 130 mw_6_17 rfl [0, 2] [1, 3, 4, 5, 6, 7] [6, 0, 7, 1, 2, 3, 4, 5] (wr := [(a0_now, .inl (zI Z, 12, .inl (q7_now o0))), (a0_history, .inl (zI Z, 96, .inl (q7_history r6))), (a0_closed, .inl (zI Z, 256, .inl (q7_closed o0))), (a0_faces, .inl (zI Z, 256, .inl (q7_faces o0))), (a0_rankOf, .inl (zI Z, 256, .inl (q7_rankOf o0))), (a0_placeOf, .inl (zI Z, 256, .inl (q7_placeOf o0)))]) rfl rfl (by decide) (by decide) (by decide) [(a0, .inr (7, [.int (q7_thrown r3.2), .ref a0_buffer, .int (q7_length o0), .int (q7_at o0), .int (q7_from o0), .int (q7_kind o0), .int (q7_number o0), .int (q7_wrong o0), .ref a0_now, .ref a0_made, .ref a0_history, .ref a0_saved, .int (q7_entries r6), .int (q7_isSaved o0), .ref a0_closed, .ref a0_faces, .ref a0_rankOf, .ref a0_placeOf, .int (q7_faceMany o0), .int (q7_isLaid r6), .ref a0_counted, .ref a0_steps, .ref a0_onto, .ref a0_goes, .int (q7_found o0), .int (q7_images o0), .ref a0_firstImage, .int (q7_gathered o0)])), (a0_now, .inl (zI Z, 12, .inl (q7_now o0))), (a0_made, .inl (zI Z, 12, .inl (q7_made r19))), (a0_history, .inl (zI Z, 96, .inl (q7_history r6))), (a0_closed, .inl (zI Z, 256, .inl (q7_closed o0))), (a0_faces, .inl (zI Z, 256, .inl (q7_faces o0))), (a0_rankOf, .inl (zI Z, 256, .inl (q7_rankOf o0))), (a0_placeOf, .inl (zI Z, 256, .inl (q7_placeOf o0)))] rfl (by decide) (Nat.le_of_ble_eq_true rfl) (by rw [hR]; exact Nat.le_of_ble_eq_true rfl) (by rw [hR]; exact Nat.le_of_ble_eq_true rfl) ⟨by rw [hR]; exact Nat.le_of_ble_eq_true rfl, by rw [hR]; exact Nat.le_of_ble_eq_true rfl⟩ rfl dX7_dual_59 ?_
      refine g_iinc C (v10.1 + 1) dX7_dual_62 1 rfl rfl (by decide) [(1, .int (v10.1 + 1)), (0, .ref a0)] rfl ?_
      refine g_goto C 43 dX7_dual_65 (by decide) ?_
      refine g_lv [1, 0] [(0, .ref a0), (1, .int (v10.1 + 1))] rfl ?_
      exact hk1 ((v10.1 + 1), (q7_made r19)) (Option.some.inj h).symm
  · replace h := it_f c5 h
    refine g_iconst C 0 dX7_dual_25 (by decide) ?_
    obtain rfl := Option.some.inj h
    subst hQ
    exact g_iret C rfl hr hlk dX7_dual_26 [0, 1, 2, 3, 4, 5, 6, 7] rfl (by decide)
def fX7_pyramid_L60 (o0 : OX7) (r2 : Int32 × OX7) (r5 : OX7) (v9 : Int32 × (Nat → Int32)) : Option ((Int32 × (Nat → Int32)) ⊕ (Int32 × OX7)) :=
  if ((q7_now o0) (ix 1)) ≤ v9.1 then (ex ((fX7_all (s7_isLaid (s7_entries (s7_history (s7_made (s7_thrown o0 (q7_thrown r2.2)) v9.2) (q7_history r5)) (q7_entries r5)) (q7_isLaid r5))).bind fun r12 =>
  ((fX7_add (s7_isLaid (s7_entries (s7_history (s7_made (s7_thrown o0 (q7_thrown r2.2)) v9.2) (q7_history r5)) (q7_entries r5)) (q7_isLaid r5)) r12).bind fun r14 =>
  ((fX7_takeMade (s7_isLaid (s7_entries (s7_history (s7_made (s7_thrown o0 (q7_thrown r2.2)) (q7_made r14)) (q7_history r5)) (q7_entries r5)) (q7_isLaid r5))).bind fun r16 =>
  ((fX7_faceManyNow (s7_isLaid (s7_entries (s7_history (s7_made (s7_now (s7_thrown o0 (q7_thrown r2.2)) (q7_now r16)) (q7_made r14)) (q7_history r5)) (q7_entries r5)) (q7_isLaid r16))).bind fun r18 =>
  (some (r18.1, (s7_isLaid (s7_faceMany (s7_placeOf (s7_rankOf (s7_faces (s7_closed (s7_entries (s7_history (s7_made (s7_now (s7_thrown o0 (q7_thrown r2.2)) (q7_now r16)) (q7_made r14)) (q7_history r5)) (q7_entries r5)) (q7_closed r18.2)) (q7_faces r18.2)) (q7_rankOf r18.2)) (q7_placeOf r18.2)) (q7_faceMany r18.2)) (q7_isLaid r18.2)))))))))
  else (ck (okI (2 + v9.1) 12) ((fX7_add (s7_isLaid (s7_entries (s7_history (s7_made (s7_thrown o0 (q7_thrown r2.2)) v9.2) (q7_history r5)) (q7_entries r5)) (q7_isLaid r5)) (((q7_now o0) (ix (2 + v9.1))) ||| (jshl 1 ((q7_now o0) (ix 0))))).bind fun r21 =>
  (some (.inl ((v9.1 + 1), (q7_made r21))))))
def fX7_pyramid_J33 (o0 : OX7) (x1 : Int32) : Option (Int32 × OX7) :=
  (fX7_fails (s7_thrown o0 0) x1 1).bind fun r2 =>
  (if r2.1 = 0 then ((fX7_record (s7_thrown o0 (q7_thrown r2.2))).bind fun r5 =>
  ((fX7_begin (s7_isLaid (s7_entries (s7_history (s7_thrown o0 (q7_thrown r2.2)) (q7_history r5)) (q7_entries r5)) (q7_isLaid r5)) (((q7_now o0) (ix 0)) + 1)).bind fun r7 =>
  (lp (fX7_pyramid_L60 o0 r2 r5) lpN (0, (q7_made r7)))))
  else (some (0, (s7_thrown o0 (q7_thrown r2.2)))))
def fX7_pyramid_J32 (o0 : OX7) : Option (Int32 × OX7) :=
  fX7_pyramid_J33 o0 0
def fX7_pyramid (o0 : OX7) : Option (Int32 × OX7) :=
  if 8 ≤ ((q7_now o0) (ix 0)) then (fX7_pyramid_J32 o0)
  else (if 10 ≤ ((q7_now o0) (ix 1)) then (fX7_pyramid_J32 o0)
  else (fX7_pyramid_J33 o0 1))
theorem myX7_pyramid : MYv yX7_pyramid cX7_pyramid 2 (some .int) 0 := ⟨mw_6_141, mw_6_142, mw_6_143, mw_1_9, ⟨by decide +kernel, by decide +kernel⟩, by decide +kernel⟩
set_option maxRecDepth 100000 in
set_option maxHeartbeats 4000000 in
theorem kX7_pyramid (l : Launch) (Z : GZ) (a0 a0_buffer a0_now a0_made a0_history a0_saved a0_closed a0_faces a0_rankOf a0_placeOf a0_counted a0_steps a0_onto a0_goes a0_firstImage : Nat) (o0 : OX7) (res : Int32 × OX7) (h : fX7_pyramid o0 = some res) : MI l Z yX7_pyramid cX7_pyramid 2 .int 5 109 [.ref a0] [(a0, .inr (7, [.int (q7_thrown o0), .ref a0_buffer, .int (q7_length o0), .int (q7_at o0), .int (q7_from o0), .int (q7_kind o0), .int (q7_number o0), .int (q7_wrong o0), .ref a0_now, .ref a0_made, .ref a0_history, .ref a0_saved, .int (q7_entries o0), .int (q7_isSaved o0), .ref a0_closed, .ref a0_faces, .ref a0_rankOf, .ref a0_placeOf, .int (q7_faceMany o0), .int (q7_isLaid o0), .ref a0_counted, .ref a0_steps, .ref a0_onto, .ref a0_goes, .int (q7_found o0), .int (q7_images o0), .ref a0_firstImage, .int (q7_gathered o0)])), (a0_now, .inl (zI Z, 12, .inl (q7_now o0))), (a0_made, .inl (zI Z, 12, .inl (q7_made o0))), (a0_history, .inl (zI Z, 96, .inl (q7_history o0))), (a0_closed, .inl (zI Z, 256, .inl (q7_closed o0))), (a0_faces, .inl (zI Z, 256, .inl (q7_faces o0))), (a0_rankOf, .inl (zI Z, 256, .inl (q7_rankOf o0))), (a0_placeOf, .inl (zI Z, 256, .inl (q7_placeOf o0)))] res.1 [(a0, .inr (7, [.int (q7_thrown res.2), .ref a0_buffer, .int (q7_length o0), .int (q7_at o0), .int (q7_from o0), .int (q7_kind o0), .int (q7_number o0), .int (q7_wrong o0), .ref a0_now, .ref a0_made, .ref a0_history, .ref a0_saved, .int (q7_entries res.2), .int (q7_isSaved o0), .ref a0_closed, .ref a0_faces, .ref a0_rankOf, .ref a0_placeOf, .int (q7_faceMany res.2), .int (q7_isLaid res.2), .ref a0_counted, .ref a0_steps, .ref a0_onto, .ref a0_goes, .int (q7_found o0), .int (q7_images o0), .ref a0_firstImage, .int (q7_gathered o0)])), (a0_now, .inl (zI Z, 12, .inl (q7_now res.2))), (a0_made, .inl (zI Z, 12, .inl (q7_made res.2))), (a0_history, .inl (zI Z, 96, .inl (q7_history res.2))), (a0_closed, .inl (zI Z, 256, .inl (q7_closed res.2))), (a0_faces, .inl (zI Z, 256, .inl (q7_faces res.2))), (a0_rankOf, .inl (zI Z, 256, .inl (q7_rankOf res.2))), (a0_placeOf, .inl (zI Z, 256, .inl (q7_placeOf res.2)))] := by
  refine MI_of (by decide +kernel) (Nat.le_of_ble_eq_true rfl) (fun {p e s m args below meth c} A R hR Q hQ C hr hlk => ?_)
  unfold fX7_pyramid at h
  refine g_lv [0] [(0, .ref a0)] rfl ?_
  refine g_aload_n C dX7_pyramid_0 rfl 0 rfl ?_
  refine g_iconst C 0 dX7_pyramid_1 (by decide) ?_
  refine g_put C 7 52 gin7 tyX7 tyX7_ok nmX7 0 rfl rfl 0 (by decide) mw_5_85 rfl rfl (ty := .int) (by decide +kernel) rfl rfl (Nat.le_of_ble_eq_true rfl) [(a0, .inr (7, [.int 0, .ref a0_buffer, .int (q7_length o0), .int (q7_at o0), .int (q7_from o0), .int (q7_kind o0), .int (q7_number o0), .int (q7_wrong o0), .ref a0_now, .ref a0_made, .ref a0_history, .ref a0_saved, .int (q7_entries o0), .int (q7_isSaved o0), .ref a0_closed, .ref a0_faces, .ref a0_rankOf, .ref a0_placeOf, .int (q7_faceMany o0), .int (q7_isLaid o0), .ref a0_counted, .ref a0_steps, .ref a0_onto, .ref a0_goes, .int (q7_found o0), .int (q7_images o0), .ref a0_firstImage, .int (q7_gathered o0)])), (a0_now, .inl (zI Z, 12, .inl (q7_now o0))), (a0_made, .inl (zI Z, 12, .inl (q7_made o0))), (a0_history, .inl (zI Z, 96, .inl (q7_history o0))), (a0_closed, .inl (zI Z, 256, .inl (q7_closed o0))), (a0_faces, .inl (zI Z, 256, .inl (q7_faces o0))), (a0_rankOf, .inl (zI Z, 256, .inl (q7_rankOf o0))), (a0_placeOf, .inl (zI Z, 256, .inl (q7_placeOf o0)))] rfl dX7_pyramid_2 ?_
  refine g_aload_n C dX7_pyramid_5 rfl 0 rfl ?_
  refine g_aload_n C dX7_pyramid_6 rfl 0 rfl ?_
  refine g_get C 7 13 gin7 0 rfl rfl 8 (by decide) mw_5_93 rfl rfl dX7_pyramid_7 ?_
  refine g_iconst C 0 dX7_pyramid_10 (by decide) ?_
  refine g_iald C 1 rfl (by decide) dX7_pyramid_11 ?_
  refine g_bipush C 8 dX7_pyramid_12 (by decide) ?_
  have hj33 : ∀ (x1 : Int32), fX7_pyramid_J33 o0 x1 = some res → Gw p l e R s m args below meth c 2 Z A Q 0 0 33 [(0, .ref a0)] [.int x1, .ref a0] [(a0, .inr (7, [.int 0, .ref a0_buffer, .int (q7_length o0), .int (q7_at o0), .int (q7_from o0), .int (q7_kind o0), .int (q7_number o0), .int (q7_wrong o0), .ref a0_now, .ref a0_made, .ref a0_history, .ref a0_saved, .int (q7_entries o0), .int (q7_isSaved o0), .ref a0_closed, .ref a0_faces, .ref a0_rankOf, .ref a0_placeOf, .int (q7_faceMany o0), .int (q7_isLaid o0), .ref a0_counted, .ref a0_steps, .ref a0_onto, .ref a0_goes, .int (q7_found o0), .int (q7_images o0), .ref a0_firstImage, .int (q7_gathered o0)])), (a0_now, .inl (zI Z, 12, .inl (q7_now o0))), (a0_made, .inl (zI Z, 12, .inl (q7_made o0))), (a0_history, .inl (zI Z, 96, .inl (q7_history o0))), (a0_closed, .inl (zI Z, 256, .inl (q7_closed o0))), (a0_faces, .inl (zI Z, 256, .inl (q7_faces o0))), (a0_rankOf, .inl (zI Z, 256, .inl (q7_rankOf o0))), (a0_placeOf, .inl (zI Z, 256, .inl (q7_placeOf o0)))] := by
    intro x1 h
    unfold fX7_pyramid_J33 at h
    refine g_iconst C 1 dX7_pyramid_33 (by decide) ?_
    obtain ⟨r2, hr3, h⟩ := bd_of h
    refine g_callVi C (kX7_fails l Z a0 a0_buffer a0_now a0_made a0_history a0_saved a0_closed a0_faces a0_rankOf a0_placeOf a0_counted a0_steps a0_onto a0_goes a0_firstImage (s7_thrown o0 0) x1 1 r2 hr3) 0 rfl (ci := 7) rfl rfl myX7_fails 63 mw_5_181 rfl [0] [1, 2, 3, 4, 5, 6, 7] [7, 0, 1, 2, 3, 4, 5, 6] (wr := [(a0_now, .inl (zI Z, 12, .inl (q7_now o0))), (a0_made, .inl (zI Z, 12, .inl (q7_made o0))), (a0_history, .inl (zI Z, 96, .inl (q7_history o0))), (a0_closed, .inl (zI Z, 256, .inl (q7_closed o0))), (a0_faces, .inl (zI Z, 256, .inl (q7_faces o0))), (a0_rankOf, .inl (zI Z, 256, .inl (q7_rankOf o0))), (a0_placeOf, .inl (zI Z, 256, .inl (q7_placeOf o0)))]) rfl rfl (by decide) (by decide) (by decide) [(a0, .inr (7, [.int (q7_thrown r2.2), .ref a0_buffer, .int (q7_length o0), .int (q7_at o0), .int (q7_from o0), .int (q7_kind o0), .int (q7_number o0), .int (q7_wrong o0), .ref a0_now, .ref a0_made, .ref a0_history, .ref a0_saved, .int (q7_entries o0), .int (q7_isSaved o0), .ref a0_closed, .ref a0_faces, .ref a0_rankOf, .ref a0_placeOf, .int (q7_faceMany o0), .int (q7_isLaid o0), .ref a0_counted, .ref a0_steps, .ref a0_onto, .ref a0_goes, .int (q7_found o0), .int (q7_images o0), .ref a0_firstImage, .int (q7_gathered o0)])), (a0_now, .inl (zI Z, 12, .inl (q7_now o0))), (a0_made, .inl (zI Z, 12, .inl (q7_made o0))), (a0_history, .inl (zI Z, 96, .inl (q7_history o0))), (a0_closed, .inl (zI Z, 256, .inl (q7_closed o0))), (a0_faces, .inl (zI Z, 256, .inl (q7_faces o0))), (a0_rankOf, .inl (zI Z, 256, .inl (q7_rankOf o0))), (a0_placeOf, .inl (zI Z, 256, .inl (q7_placeOf o0)))] rfl (by decide) (Nat.le_of_ble_eq_true rfl) (by rw [hR]; exact Nat.le_of_ble_eq_true rfl) (by rw [hR]; exact Nat.le_of_ble_eq_true rfl) ⟨by rw [hR]; exact Nat.le_of_ble_eq_true rfl, by rw [hR]; exact Nat.le_of_ble_eq_true rfl⟩ rfl dX7_pyramid_34 ?_
    refine g_if_eq C 42 dX7_pyramid_37 (by decide) (fun c4 => ?_) (fun c4 => ?_)
    · replace h := it_t c4 h
      refine g_aload_n C dX7_pyramid_42 rfl 0 rfl ?_
      obtain ⟨r5, hr6, h⟩ := bd_of h
      refine g_callVv C (kX7_record l Z a0 a0_buffer a0_now a0_made a0_history a0_saved a0_closed a0_faces a0_rankOf a0_placeOf a0_counted a0_steps a0_onto a0_goes a0_firstImage (s7_thrown o0 (q7_thrown r2.2)) r5 hr6) 0 rfl (ci := 7) rfl rfl myX7_record 226 mw_6_84 rfl [0, 1, 3] [2, 4, 5, 6, 7] [5, 6, 0, 7, 1, 2, 3, 4] (wr := [(a0_made, .inl (zI Z, 12, .inl (q7_made o0))), (a0_closed, .inl (zI Z, 256, .inl (q7_closed o0))), (a0_faces, .inl (zI Z, 256, .inl (q7_faces o0))), (a0_rankOf, .inl (zI Z, 256, .inl (q7_rankOf o0))), (a0_placeOf, .inl (zI Z, 256, .inl (q7_placeOf o0)))]) rfl rfl (by decide) (by decide) (by decide) [(a0, .inr (7, [.int (q7_thrown r2.2), .ref a0_buffer, .int (q7_length o0), .int (q7_at o0), .int (q7_from o0), .int (q7_kind o0), .int (q7_number o0), .int (q7_wrong o0), .ref a0_now, .ref a0_made, .ref a0_history, .ref a0_saved, .int (q7_entries r5), .int (q7_isSaved o0), .ref a0_closed, .ref a0_faces, .ref a0_rankOf, .ref a0_placeOf, .int (q7_faceMany o0), .int (q7_isLaid r5), .ref a0_counted, .ref a0_steps, .ref a0_onto, .ref a0_goes, .int (q7_found o0), .int (q7_images o0), .ref a0_firstImage, .int (q7_gathered o0)])), (a0_now, .inl (zI Z, 12, .inl (q7_now o0))), (a0_made, .inl (zI Z, 12, .inl (q7_made o0))), (a0_history, .inl (zI Z, 96, .inl (q7_history r5))), (a0_closed, .inl (zI Z, 256, .inl (q7_closed o0))), (a0_faces, .inl (zI Z, 256, .inl (q7_faces o0))), (a0_rankOf, .inl (zI Z, 256, .inl (q7_rankOf o0))), (a0_placeOf, .inl (zI Z, 256, .inl (q7_placeOf o0)))] rfl (by decide) (Nat.le_of_ble_eq_true rfl) (by rw [hR]; exact Nat.le_of_ble_eq_true rfl) (by rw [hR]; exact Nat.le_of_ble_eq_true rfl) ⟨by rw [hR]; exact Nat.le_of_ble_eq_true rfl, by rw [hR]; exact Nat.le_of_ble_eq_true rfl⟩ rfl dX7_pyramid_43 ?_
      refine g_aload_n C dX7_pyramid_46 rfl 0 rfl ?_
      refine g_aload_n C dX7_pyramid_47 rfl 0 rfl ?_
      refine g_get C 7 13 gin7 0 rfl rfl 8 (by decide) mw_5_93 rfl rfl dX7_pyramid_48 ?_
      refine g_iconst C 0 dX7_pyramid_51 (by decide) ?_
      refine g_iald C 1 rfl (by decide) dX7_pyramid_52 ?_
      refine g_iconst C 1 dX7_pyramid_53 (by decide) ?_
      refine g_iadd C dX7_pyramid_54 ?_
      obtain ⟨r7, hr8, h⟩ := bd_of h
      refine g_callVv C (kX7_begin l Z a0 a0_buffer a0_now a0_made a0_history a0_saved a0_closed a0_faces a0_rankOf a0_placeOf a0_counted a0_steps a0_onto a0_goes a0_firstImage (s7_isLaid (s7_entries (s7_history (s7_thrown o0 (q7_thrown r2.2)) (q7_history r5)) (q7_entries r5)) (q7_isLaid r5)) (((q7_now o0) (ix 0)) + 1) r7 hr8) 0 rfl (ci := 7) rfl rfl myX7_begin 123 mw_6_5 rfl [0, 2] [1, 3, 4, 5, 6, 7] [6, 0, 7, 1, 2, 3, 4, 5] (wr := [(a0_now, .inl (zI Z, 12, .inl (q7_now o0))), (a0_history, .inl (zI Z, 96, .inl (q7_history r5))), (a0_closed, .inl (zI Z, 256, .inl (q7_closed o0))), (a0_faces, .inl (zI Z, 256, .inl (q7_faces o0))), (a0_rankOf, .inl (zI Z, 256, .inl (q7_rankOf o0))), (a0_placeOf, .inl (zI Z, 256, .inl (q7_placeOf o0)))]) rfl rfl (by decide) (by decide) (by decide) [(a0, .inr (7, [.int (q7_thrown r2.2), .ref a0_buffer, .int (q7_length o0), .int (q7_at o0), .int (q7_from o0), .int (q7_kind o0), .int (q7_number o0), .int (q7_wrong o0), .ref a0_now, .ref a0_made, .ref a0_history, .ref a0_saved, .int (q7_entries r5), .int (q7_isSaved o0), .ref a0_closed, .ref a0_faces, .ref a0_rankOf, .ref a0_placeOf, .int (q7_faceMany o0), .int (q7_isLaid r5), .ref a0_counted, .ref a0_steps, .ref a0_onto, .ref a0_goes, .int (q7_found o0), .int (q7_images o0), .ref a0_firstImage, .int (q7_gathered o0)])), (a0_now, .inl (zI Z, 12, .inl (q7_now o0))), (a0_made, .inl (zI Z, 12, .inl (q7_made r7))), (a0_history, .inl (zI Z, 96, .inl (q7_history r5))), (a0_closed, .inl (zI Z, 256, .inl (q7_closed o0))), (a0_faces, .inl (zI Z, 256, .inl (q7_faces o0))), (a0_rankOf, .inl (zI Z, 256, .inl (q7_rankOf o0))), (a0_placeOf, .inl (zI Z, 256, .inl (q7_placeOf o0)))] rfl (by decide) (Nat.le_of_ble_eq_true rfl) (by rw [hR]; exact Nat.le_of_ble_eq_true rfl) (by rw [hR]; exact Nat.le_of_ble_eq_true rfl) ⟨by rw [hR]; exact Nat.le_of_ble_eq_true rfl, by rw [hR]; exact Nat.le_of_ble_eq_true rfl⟩ rfl dX7_pyramid_55 ?_
      refine g_iconst C 0 dX7_pyramid_58 (by decide) ?_
      refine g_istore_n C dX7_pyramid_59 rfl (by decide) [(1, .int 0), (0, .ref a0)] rfl ?_
      refine g_lv [1, 0] [(0, .ref a0), (1, .int 0)] rfl ?_
      refine g_loop (lvf := fun v9 => [(0, .ref a0), (1, .int v9.1)]) (wsf := fun v9 => [(a0, .inr (7, [.int (q7_thrown r2.2), .ref a0_buffer, .int (q7_length o0), .int (q7_at o0), .int (q7_from o0), .int (q7_kind o0), .int (q7_number o0), .int (q7_wrong o0), .ref a0_now, .ref a0_made, .ref a0_history, .ref a0_saved, .int (q7_entries r5), .int (q7_isSaved o0), .ref a0_closed, .ref a0_faces, .ref a0_rankOf, .ref a0_placeOf, .int (q7_faceMany o0), .int (q7_isLaid r5), .ref a0_counted, .ref a0_steps, .ref a0_onto, .ref a0_goes, .int (q7_found o0), .int (q7_images o0), .ref a0_firstImage, .int (q7_gathered o0)])), (a0_now, .inl (zI Z, 12, .inl (q7_now o0))), (a0_made, .inl (zI Z, 12, .inl v9.2)), (a0_history, .inl (zI Z, 96, .inl (q7_history r5))), (a0_closed, .inl (zI Z, 256, .inl (q7_closed o0))), (a0_faces, .inl (zI Z, 256, .inl (q7_faces o0))), (a0_rankOf, .inl (zI Z, 256, .inl (q7_rankOf o0))), (a0_placeOf, .inl (zI Z, 256, .inl (q7_placeOf o0)))]) h (fun v9 y1 h hk1 hx1 => ?_)
      refine g_eq (lv1 := [(0, .ref a0), (1, .int v9.1)]) (st1 := []) (ws1 := [(a0, .inr (7, [.int (q7_thrown r2.2), .ref a0_buffer, .int (q7_length o0), .int (q7_at o0), .int (q7_from o0), .int (q7_kind o0), .int (q7_number o0), .int (q7_wrong o0), .ref a0_now, .ref a0_made, .ref a0_history, .ref a0_saved, .int (q7_entries r5), .int (q7_isSaved o0), .ref a0_closed, .ref a0_faces, .ref a0_rankOf, .ref a0_placeOf, .int (q7_faceMany o0), .int (q7_isLaid r5), .ref a0_counted, .ref a0_steps, .ref a0_onto, .ref a0_goes, .int (q7_found o0), .int (q7_images o0), .ref a0_firstImage, .int (q7_gathered o0)])), (a0_now, .inl (zI Z, 12, .inl (q7_now o0))), (a0_made, .inl (zI Z, 12, .inl v9.2)), (a0_history, .inl (zI Z, 96, .inl (q7_history r5))), (a0_closed, .inl (zI Z, 256, .inl (q7_closed o0))), (a0_faces, .inl (zI Z, 256, .inl (q7_faces o0))), (a0_rankOf, .inl (zI Z, 256, .inl (q7_rankOf o0))), (a0_placeOf, .inl (zI Z, 256, .inl (q7_placeOf o0)))]) rfl rfl rfl rfl ?_
      unfold fX7_pyramid_L60 at h
      refine g_iload_n C dX7_pyramid_60 rfl 1 rfl ?_
      refine g_aload_n C dX7_pyramid_61 rfl 0 rfl ?_
      refine g_get C 7 13 gin7 0 rfl rfl 8 (by decide) mw_5_93 rfl rfl dX7_pyramid_62 ?_
      refine g_iconst C 1 dX7_pyramid_65 (by decide) ?_
      refine g_iald C 1 rfl (by decide) dX7_pyramid_66 ?_
      refine g_icmp_ge C 97 dX7_pyramid_67 (by decide) (fun c10 => ?_) (fun c10 => ?_)
      · replace h := it_t c10 h
        obtain ⟨r11, h, hy⟩ := ex_of h
        rw [hx1 r11 hy] at h
        refine g_aload_n C dX7_pyramid_97 rfl 0 rfl ?_
        refine g_aload_n C dX7_pyramid_98 rfl 0 rfl ?_
        obtain ⟨r12, hr13, h⟩ := bd_of h
        refine g_callVi C (kX7_all l Z a0 a0_buffer a0_now a0_made a0_history a0_saved a0_closed a0_faces a0_rankOf a0_placeOf a0_counted a0_steps a0_onto a0_goes a0_firstImage (s7_isLaid (s7_entries (s7_history (s7_made (s7_thrown o0 (q7_thrown r2.2)) v9.2) (q7_history r5)) (q7_entries r5)) (q7_isLaid r5)) r12 hr13) 0 rfl (ci := 7) rfl rfl myX7_all 196 mw_6_96 rfl [0, 1] [2, 3, 4, 5, 6, 7] [6, 7, 0, 1, 2, 3, 4, 5] (wr := [(a0_made, .inl (zI Z, 12, .inl v9.2)), (a0_history, .inl (zI Z, 96, .inl (q7_history r5))), (a0_closed, .inl (zI Z, 256, .inl (q7_closed o0))), (a0_faces, .inl (zI Z, 256, .inl (q7_faces o0))), (a0_rankOf, .inl (zI Z, 256, .inl (q7_rankOf o0))), (a0_placeOf, .inl (zI Z, 256, .inl (q7_placeOf o0)))]) rfl rfl (by decide) (by decide) (by decide) [(a0, .inr (7, [.int (q7_thrown r2.2), .ref a0_buffer, .int (q7_length o0), .int (q7_at o0), .int (q7_from o0), .int (q7_kind o0), .int (q7_number o0), .int (q7_wrong o0), .ref a0_now, .ref a0_made, .ref a0_history, .ref a0_saved, .int (q7_entries r5), .int (q7_isSaved o0), .ref a0_closed, .ref a0_faces, .ref a0_rankOf, .ref a0_placeOf, .int (q7_faceMany o0), .int (q7_isLaid r5), .ref a0_counted, .ref a0_steps, .ref a0_onto, .ref a0_goes, .int (q7_found o0), .int (q7_images o0), .ref a0_firstImage, .int (q7_gathered o0)])), (a0_now, .inl (zI Z, 12, .inl (q7_now o0))), (a0_made, .inl (zI Z, 12, .inl v9.2)), (a0_history, .inl (zI Z, 96, .inl (q7_history r5))), (a0_closed, .inl (zI Z, 256, .inl (q7_closed o0))), (a0_faces, .inl (zI Z, 256, .inl (q7_faces o0))), (a0_rankOf, .inl (zI Z, 256, .inl (q7_rankOf o0))), (a0_placeOf, .inl (zI Z, 256, .inl (q7_placeOf o0)))] rfl (by decide) (Nat.le_of_ble_eq_true rfl) (by rw [hR]; exact Nat.le_of_ble_eq_true rfl) (by rw [hR]; exact Nat.le_of_ble_eq_true rfl) ⟨by rw [hR]; exact Nat.le_of_ble_eq_true rfl, by rw [hR]; exact Nat.le_of_ble_eq_true rfl⟩ rfl dX7_pyramid_99 ?_
        obtain ⟨r14, hr15, h⟩ := bd_of h
        refine g_callVv C (kX7_add l Z a0 a0_buffer a0_now a0_made a0_history a0_saved a0_closed a0_faces a0_rankOf a0_placeOf a0_counted a0_steps a0_onto a0_goes a0_firstImage (s7_isLaid (s7_entries (s7_history (s7_made (s7_thrown o0 (q7_thrown r2.2)) v9.2) (q7_history r5)) (q7_entries r5)) (q7_isLaid r5)) r12 r14 hr15) 0 rfl (ci := 7) rfl rfl myX7_add 130 mw_6_17 rfl [0, 2] [1, 3, 4, 5, 6, 7] [6, 0, 7, 1, 2, 3, 4, 5] (wr := [(a0_now, .inl (zI Z, 12, .inl (q7_now o0))), (a0_history, .inl (zI Z, 96, .inl (q7_history r5))), (a0_closed, .inl (zI Z, 256, .inl (q7_closed o0))), (a0_faces, .inl (zI Z, 256, .inl (q7_faces o0))), (a0_rankOf, .inl (zI Z, 256, .inl (q7_rankOf o0))), (a0_placeOf, .inl (zI Z, 256, .inl (q7_placeOf o0)))]) rfl rfl (by decide) (by decide) (by decide) [(a0, .inr (7, [.int (q7_thrown r2.2), .ref a0_buffer, .int (q7_length o0), .int (q7_at o0), .int (q7_from o0), .int (q7_kind o0), .int (q7_number o0), .int (q7_wrong o0), .ref a0_now, .ref a0_made, .ref a0_history, .ref a0_saved, .int (q7_entries r5), .int (q7_isSaved o0), .ref a0_closed, .ref a0_faces, .ref a0_rankOf, .ref a0_placeOf, .int (q7_faceMany o0), .int (q7_isLaid r5), .ref a0_counted, .ref a0_steps, .ref a0_onto, .ref a0_goes, .int (q7_found o0), .int (q7_images o0), .ref a0_firstImage, .int (q7_gathered o0)])), (a0_now, .inl (zI Z, 12, .inl (q7_now o0))), (a0_made, .inl (zI Z, 12, .inl (q7_made r14))), (a0_history, .inl (zI Z, 96, .inl (q7_history r5))), (a0_closed, .inl (zI Z, 256, .inl (q7_closed o0))), (a0_faces, .inl (zI Z, 256, .inl (q7_faces o0))), (a0_rankOf, .inl (zI Z, 256, .inl (q7_rankOf o0))), (a0_placeOf, .inl (zI Z, 256, .inl (q7_placeOf o0)))] rfl (by decide) (Nat.le_of_ble_eq_true rfl) (by rw [hR]; exact Nat.le_of_ble_eq_true rfl) (by rw [hR]; exact Nat.le_of_ble_eq_true rfl) ⟨by rw [hR]; exact Nat.le_of_ble_eq_true rfl, by rw [hR]; exact Nat.le_of_ble_eq_true rfl⟩ rfl dX7_pyramid_102 ?_
        refine g_aload_n C dX7_pyramid_105 rfl 0 rfl ?_
        obtain ⟨r16, hr17, h⟩ := bd_of h
        refine g_callVv C (kX7_takeMade l Z a0 a0_buffer a0_now a0_made a0_history a0_saved a0_closed a0_faces a0_rankOf a0_placeOf a0_counted a0_steps a0_onto a0_goes a0_firstImage (s7_isLaid (s7_entries (s7_history (s7_made (s7_thrown o0 (q7_thrown r2.2)) (q7_made r14)) (q7_history r5)) (q7_entries r5)) (q7_isLaid r5)) r16 hr17) 0 rfl (ci := 7) rfl rfl myX7_takeMade 187 mw_6_52 rfl [0, 1, 2] [3, 4, 5, 6, 7] [5, 6, 7, 0, 1, 2, 3, 4] (wr := [(a0_history, .inl (zI Z, 96, .inl (q7_history r5))), (a0_closed, .inl (zI Z, 256, .inl (q7_closed o0))), (a0_faces, .inl (zI Z, 256, .inl (q7_faces o0))), (a0_rankOf, .inl (zI Z, 256, .inl (q7_rankOf o0))), (a0_placeOf, .inl (zI Z, 256, .inl (q7_placeOf o0)))]) rfl rfl (by decide) (by decide) (by decide) [(a0, .inr (7, [.int (q7_thrown r2.2), .ref a0_buffer, .int (q7_length o0), .int (q7_at o0), .int (q7_from o0), .int (q7_kind o0), .int (q7_number o0), .int (q7_wrong o0), .ref a0_now, .ref a0_made, .ref a0_history, .ref a0_saved, .int (q7_entries r5), .int (q7_isSaved o0), .ref a0_closed, .ref a0_faces, .ref a0_rankOf, .ref a0_placeOf, .int (q7_faceMany o0), .int (q7_isLaid r16), .ref a0_counted, .ref a0_steps, .ref a0_onto, .ref a0_goes, .int (q7_found o0), .int (q7_images o0), .ref a0_firstImage, .int (q7_gathered o0)])), (a0_now, .inl (zI Z, 12, .inl (q7_now r16))), (a0_made, .inl (zI Z, 12, .inl (q7_made r14))), (a0_history, .inl (zI Z, 96, .inl (q7_history r5))), (a0_closed, .inl (zI Z, 256, .inl (q7_closed o0))), (a0_faces, .inl (zI Z, 256, .inl (q7_faces o0))), (a0_rankOf, .inl (zI Z, 256, .inl (q7_rankOf o0))), (a0_placeOf, .inl (zI Z, 256, .inl (q7_placeOf o0)))] rfl (by decide) (Nat.le_of_ble_eq_true rfl) (by rw [hR]; exact Nat.le_of_ble_eq_true rfl) (by rw [hR]; exact Nat.le_of_ble_eq_true rfl) ⟨by rw [hR]; exact Nat.le_of_ble_eq_true rfl, by rw [hR]; exact Nat.le_of_ble_eq_true rfl⟩ rfl dX7_pyramid_106 ?_
        refine g_aload_n C dX7_pyramid_109 rfl 0 rfl ?_
        obtain ⟨r18, hr19, h⟩ := bd_of h
        refine g_callVi C (kX7_faceManyNow l Z a0 a0_buffer a0_now a0_made a0_history a0_saved a0_closed a0_faces a0_rankOf a0_placeOf a0_counted a0_steps a0_onto a0_goes a0_firstImage (s7_isLaid (s7_entries (s7_history (s7_made (s7_now (s7_thrown o0 (q7_thrown r2.2)) (q7_now r16)) (q7_made r14)) (q7_history r5)) (q7_entries r5)) (q7_isLaid r16)) r18 hr19) 0 rfl (ci := 7) rfl rfl myX7_faceManyNow 238 mw_6_116 rfl [0, 1, 4, 5, 6, 7] [2, 3] [2, 3, 0, 1, 4, 5, 6, 7] (wr := [(a0_made, .inl (zI Z, 12, .inl (q7_made r14))), (a0_history, .inl (zI Z, 96, .inl (q7_history r5)))]) rfl rfl (by decide) (by decide) (by decide) [(a0, .inr (7, [.int (q7_thrown r2.2), .ref a0_buffer, .int (q7_length o0), .int (q7_at o0), .int (q7_from o0), .int (q7_kind o0), .int (q7_number o0), .int (q7_wrong o0), .ref a0_now, .ref a0_made, .ref a0_history, .ref a0_saved, .int (q7_entries r5), .int (q7_isSaved o0), .ref a0_closed, .ref a0_faces, .ref a0_rankOf, .ref a0_placeOf, .int (q7_faceMany r18.2), .int (q7_isLaid r18.2), .ref a0_counted, .ref a0_steps, .ref a0_onto, .ref a0_goes, .int (q7_found o0), .int (q7_images o0), .ref a0_firstImage, .int (q7_gathered o0)])), (a0_now, .inl (zI Z, 12, .inl (q7_now r16))), (a0_made, .inl (zI Z, 12, .inl (q7_made r14))), (a0_history, .inl (zI Z, 96, .inl (q7_history r5))), (a0_closed, .inl (zI Z, 256, .inl (q7_closed r18.2))), (a0_faces, .inl (zI Z, 256, .inl (q7_faces r18.2))), (a0_rankOf, .inl (zI Z, 256, .inl (q7_rankOf r18.2))), (a0_placeOf, .inl (zI Z, 256, .inl (q7_placeOf r18.2)))] rfl (by decide) (Nat.le_of_ble_eq_true rfl) (by rw [hR]; exact Nat.le_of_ble_eq_true rfl) (by rw [hR]; exact Nat.le_of_ble_eq_true rfl) ⟨by rw [hR]; exact Nat.le_of_ble_eq_true rfl, by rw [hR]; exact Nat.le_of_ble_eq_true rfl⟩ rfl dX7_pyramid_110 ?_
        obtain rfl := Option.some.inj h
        subst hQ
        exact g_iret C rfl hr hlk dX7_pyramid_113 [0, 1, 2, 3, 4, 5, 6, 7] rfl (by decide)
      · replace h := it_f c10 h
        refine g_aload_n C dX7_pyramid_70 rfl 0 rfl ?_
        refine g_aload_n C dX7_pyramid_71 rfl 0 rfl ?_
        refine g_get C 7 13 gin7 0 rfl rfl 8 (by decide) mw_5_93 rfl rfl dX7_pyramid_72 ?_
        refine g_iconst C 2 dX7_pyramid_75 (by decide) ?_
        refine g_iload_n C dX7_pyramid_76 rfl 1 rfl ?_
        refine g_iadd C dX7_pyramid_77 ?_
        obtain ⟨hi20, h⟩ := ck_of h
        refine g_iald C 1 rfl hi20 dX7_pyramid_78 ?_
        refine g_iconst C 1 dX7_pyramid_79 (by decide) ?_
        refine g_aload_n C dX7_pyramid_80 rfl 0 rfl ?_
        refine g_get C 7 13 gin7 0 rfl rfl 8 (by decide) mw_5_93 rfl rfl dX7_pyramid_81 ?_
        refine g_iconst C 0 dX7_pyramid_84 (by decide) ?_
        refine g_iald C 1 rfl (by decide) dX7_pyramid_85 ?_
        refine g_ishl C dX7_pyramid_86 ?_
        refine g_ior C dX7_pyramid_87 ?_
        obtain ⟨r21, hr22, h⟩ := bd_of h
        refine g_callVv C (kX7_add l Z a0 a0_buffer a0_now a0_made a0_history a0_saved a0_closed a0_faces a0_rankOf a0_placeOf a0_counted a0_steps a0_onto a0_goes a0_firstImage (s7_isLaid (s7_entries (s7_history (s7_made (s7_thrown o0 (q7_thrown r2.2)) v9.2) (q7_history r5)) (q7_entries r5)) (q7_isLaid r5)) (((q7_now o0) (ix (2 + v9.1))) ||| (jshl 1 ((q7_now o0) (ix 0)))) r21 hr22) 0 rfl (ci := 7) rfl rfl myX7_add 130 mw_6_17 rfl [0, 2] [1, 3, 4, 5, 6, 7] [6, 0, 7, 1, 2, 3, 4, 5] (wr := [(a0_now, .inl (zI Z, 12, .inl (q7_now o0))), (a0_history, .inl (zI Z, 96, .inl (q7_history r5))), (a0_closed, .inl (zI Z, 256, .inl (q7_closed o0))), (a0_faces, .inl (zI Z, 256, .inl (q7_faces o0))), (a0_rankOf, .inl (zI Z, 256, .inl (q7_rankOf o0))), (a0_placeOf, .inl (zI Z, 256, .inl (q7_placeOf o0)))]) rfl rfl (by decide) (by decide) (by decide) [(a0, .inr (7, [.int (q7_thrown r2.2), .ref a0_buffer, .int (q7_length o0), .int (q7_at o0), .int (q7_from o0), .int (q7_kind o0), .int (q7_number o0), .int (q7_wrong o0), .ref a0_now, .ref a0_made, .ref a0_history, .ref a0_saved, .int (q7_entries r5), .int (q7_isSaved o0), .ref a0_closed, .ref a0_faces, .ref a0_rankOf, .ref a0_placeOf, .int (q7_faceMany o0), .int (q7_isLaid r5), .ref a0_counted, .ref a0_steps, .ref a0_onto, .ref a0_goes, .int (q7_found o0), .int (q7_images o0), .ref a0_firstImage, .int (q7_gathered o0)])), (a0_now, .inl (zI Z, 12, .inl (q7_now o0))), (a0_made, .inl (zI Z, 12, .inl (q7_made r21))), (a0_history, .inl (zI Z, 96, .inl (q7_history r5))), (a0_closed, .inl (zI Z, 256, .inl (q7_closed o0))), (a0_faces, .inl (zI Z, 256, .inl (q7_faces o0))), (a0_rankOf, .inl (zI Z, 256, .inl (q7_rankOf o0))), (a0_placeOf, .inl (zI Z, 256, .inl (q7_placeOf o0)))] rfl (by decide) (Nat.le_of_ble_eq_true rfl) (by rw [hR]; exact Nat.le_of_ble_eq_true rfl) (by rw [hR]; exact Nat.le_of_ble_eq_true rfl) ⟨by rw [hR]; exact Nat.le_of_ble_eq_true rfl, by rw [hR]; exact Nat.le_of_ble_eq_true rfl⟩ rfl dX7_pyramid_88 ?_
        refine g_iinc C (v9.1 + 1) dX7_pyramid_91 1 rfl rfl (by decide) [(1, .int (v9.1 + 1)), (0, .ref a0)] rfl ?_
        refine g_goto C 60 dX7_pyramid_94 (by decide) ?_
        refine g_lv [1, 0] [(0, .ref a0), (1, .int (v9.1 + 1))] rfl ?_
        exact hk1 ((v9.1 + 1), (q7_made r21)) (Option.some.inj h).symm
    · replace h := it_f c4 h
      refine g_iconst C 0 dX7_pyramid_40 (by decide) ?_
      obtain rfl := Option.some.inj h
      subst hQ
      exact g_iret C rfl hr hlk dX7_pyramid_41 [0, 1, 2, 3, 4, 5, 6, 7] rfl (by decide)
  have hj32 : fX7_pyramid_J32 o0 = some res → Gw p l e R s m args below meth c 2 Z A Q 0 0 32 [(0, .ref a0)] [.ref a0] [(a0, .inr (7, [.int 0, .ref a0_buffer, .int (q7_length o0), .int (q7_at o0), .int (q7_from o0), .int (q7_kind o0), .int (q7_number o0), .int (q7_wrong o0), .ref a0_now, .ref a0_made, .ref a0_history, .ref a0_saved, .int (q7_entries o0), .int (q7_isSaved o0), .ref a0_closed, .ref a0_faces, .ref a0_rankOf, .ref a0_placeOf, .int (q7_faceMany o0), .int (q7_isLaid o0), .ref a0_counted, .ref a0_steps, .ref a0_onto, .ref a0_goes, .int (q7_found o0), .int (q7_images o0), .ref a0_firstImage, .int (q7_gathered o0)])), (a0_now, .inl (zI Z, 12, .inl (q7_now o0))), (a0_made, .inl (zI Z, 12, .inl (q7_made o0))), (a0_history, .inl (zI Z, 96, .inl (q7_history o0))), (a0_closed, .inl (zI Z, 256, .inl (q7_closed o0))), (a0_faces, .inl (zI Z, 256, .inl (q7_faces o0))), (a0_rankOf, .inl (zI Z, 256, .inl (q7_rankOf o0))), (a0_placeOf, .inl (zI Z, 256, .inl (q7_placeOf o0)))] := by
    intro h
    unfold fX7_pyramid_J32 at h
    refine g_iconst C 0 dX7_pyramid_32 (by decide) ?_
    exact hj33 0 h
  refine g_icmp_ge C 32 dX7_pyramid_14 (by decide) (fun c23 => ?_) (fun c23 => ?_)
  · replace h := it_t c23 h
    exact hj32 h
  · replace h := it_f c23 h
    refine g_aload_n C dX7_pyramid_17 rfl 0 rfl ?_
    refine g_get C 7 13 gin7 0 rfl rfl 8 (by decide) mw_5_93 rfl rfl dX7_pyramid_18 ?_
    refine g_iconst C 1 dX7_pyramid_21 (by decide) ?_
    refine g_iald C 1 rfl (by decide) dX7_pyramid_22 ?_
    refine g_bipush C 10 dX7_pyramid_23 (by decide) ?_
    refine g_icmp_ge C 32 dX7_pyramid_25 (by decide) (fun c24 => ?_) (fun c24 => ?_)
    · replace h := it_t c24 h
      exact hj32 h
    · replace h := it_f c24 h
      refine g_iconst C 1 dX7_pyramid_28 (by decide) ?_
      refine g_goto C 33 dX7_pyramid_29 (by decide) ?_
      exact hj33 1 h
def fX7_coverCount_L5 (o0 : OX7) (p1 : Int32) (p2 : Int32) (v1 : Int32 × Int32) : Option ((Int32 × Int32) ⊕ (Int32)) :=
  if (q7_faceMany o0) ≤ v1.2 then (ex (some v1.1))
  else (if p2 = 0 then ((fX7_covers o0 p1 v1.2).bind fun r5 =>
  (if r5 = 0 then (some (.inl ((v1.1 + 0), (v1.2 + 1))))
  else (some (.inl ((v1.1 + 1), (v1.2 + 1))))))
  else ((fX7_covers o0 v1.2 p1).bind fun r8 =>
  (if r8 = 0 then (some (.inl ((v1.1 + 0), (v1.2 + 1))))
  else (some (.inl ((v1.1 + 1), (v1.2 + 1)))))))
def fX7_coverCount (o0 : OX7) (p1 : Int32) (p2 : Int32) : Option (Int32) :=
  lp (fX7_coverCount_L5 o0 p1 p2) lpN (0, 0)
theorem myX7_coverCount : MYv yX7_coverCount cX7_coverCount 5 (some .int) 2 := ⟨mw_6_150, ms_64, mw_6_151, mw_1_9, ⟨by decide +kernel, by decide +kernel⟩, by decide +kernel⟩
set_option maxRecDepth 100000 in
set_option maxHeartbeats 4000000 in
theorem kX7_coverCount (l : Launch) (Z : GZ) (a0 a0_buffer a0_now a0_made a0_history a0_saved a0_closed a0_faces a0_rankOf a0_placeOf a0_counted a0_steps a0_onto a0_goes a0_firstImage : Nat) (o0 : OX7) (p1 : Int32) (p2 : Int32) (res : Int32) (h : fX7_coverCount o0 p1 p2 = some res) : MI l Z yX7_coverCount cX7_coverCount 5 .int 3 66 [.ref a0, .int p1, .int p2] [(a0, .inr (7, [.int (q7_thrown o0), .ref a0_buffer, .int (q7_length o0), .int (q7_at o0), .int (q7_from o0), .int (q7_kind o0), .int (q7_number o0), .int (q7_wrong o0), .ref a0_now, .ref a0_made, .ref a0_history, .ref a0_saved, .int (q7_entries o0), .int (q7_isSaved o0), .ref a0_closed, .ref a0_faces, .ref a0_rankOf, .ref a0_placeOf, .int (q7_faceMany o0), .int (q7_isLaid o0), .ref a0_counted, .ref a0_steps, .ref a0_onto, .ref a0_goes, .int (q7_found o0), .int (q7_images o0), .ref a0_firstImage, .int (q7_gathered o0)])), (a0_closed, .inl (zI Z, 256, .inl (q7_closed o0))), (a0_faces, .inl (zI Z, 256, .inl (q7_faces o0)))] res [(a0, .inr (7, [.int (q7_thrown o0), .ref a0_buffer, .int (q7_length o0), .int (q7_at o0), .int (q7_from o0), .int (q7_kind o0), .int (q7_number o0), .int (q7_wrong o0), .ref a0_now, .ref a0_made, .ref a0_history, .ref a0_saved, .int (q7_entries o0), .int (q7_isSaved o0), .ref a0_closed, .ref a0_faces, .ref a0_rankOf, .ref a0_placeOf, .int (q7_faceMany o0), .int (q7_isLaid o0), .ref a0_counted, .ref a0_steps, .ref a0_onto, .ref a0_goes, .int (q7_found o0), .int (q7_images o0), .ref a0_firstImage, .int (q7_gathered o0)])), (a0_closed, .inl (zI Z, 256, .inl (q7_closed o0))), (a0_faces, .inl (zI Z, 256, .inl (q7_faces o0)))] := by
  refine MI_of (by decide +kernel) (Nat.le_of_ble_eq_true rfl) (fun {p e s m args below meth c} A R hR Q hQ C hr hlk => ?_)
  unfold fX7_coverCount at h
  refine g_lv [0, 1, 2] [(0, .ref a0), (1, .int p1), (2, .int p2)] rfl ?_
  refine g_iconst C 0 dX7_coverCount_0 (by decide) ?_
  refine g_istore_n C dX7_coverCount_1 rfl (by decide) [(3, .int 0), (0, .ref a0), (1, .int p1), (2, .int p2)] rfl ?_
  refine g_iconst C 0 dX7_coverCount_2 (by decide) ?_
  refine g_istore C dX7_coverCount_3 (by decide) [(4, .int 0), (3, .int 0), (0, .ref a0), (1, .int p1), (2, .int p2)] rfl ?_
  refine g_lv [2, 3, 4, 1, 0] [(0, .ref a0), (1, .int p1), (2, .int p2), (3, .int 0), (4, .int 0)] rfl ?_
  refine g_loop (lvf := fun v1 => [(0, .ref a0), (1, .int p1), (2, .int p2), (3, .int v1.1), (4, .int v1.2)]) (wsf := fun v1 => [(a0, .inr (7, [.int (q7_thrown o0), .ref a0_buffer, .int (q7_length o0), .int (q7_at o0), .int (q7_from o0), .int (q7_kind o0), .int (q7_number o0), .int (q7_wrong o0), .ref a0_now, .ref a0_made, .ref a0_history, .ref a0_saved, .int (q7_entries o0), .int (q7_isSaved o0), .ref a0_closed, .ref a0_faces, .ref a0_rankOf, .ref a0_placeOf, .int (q7_faceMany o0), .int (q7_isLaid o0), .ref a0_counted, .ref a0_steps, .ref a0_onto, .ref a0_goes, .int (q7_found o0), .int (q7_images o0), .ref a0_firstImage, .int (q7_gathered o0)])), (a0_closed, .inl (zI Z, 256, .inl (q7_closed o0))), (a0_faces, .inl (zI Z, 256, .inl (q7_faces o0)))]) h (fun v1 y1 h hk1 hx1 => ?_)
  refine g_eq (lv1 := [(0, .ref a0), (1, .int p1), (2, .int p2), (3, .int v1.1), (4, .int v1.2)]) (st1 := []) (ws1 := [(a0, .inr (7, [.int (q7_thrown o0), .ref a0_buffer, .int (q7_length o0), .int (q7_at o0), .int (q7_from o0), .int (q7_kind o0), .int (q7_number o0), .int (q7_wrong o0), .ref a0_now, .ref a0_made, .ref a0_history, .ref a0_saved, .int (q7_entries o0), .int (q7_isSaved o0), .ref a0_closed, .ref a0_faces, .ref a0_rankOf, .ref a0_placeOf, .int (q7_faceMany o0), .int (q7_isLaid o0), .ref a0_counted, .ref a0_steps, .ref a0_onto, .ref a0_goes, .int (q7_found o0), .int (q7_images o0), .ref a0_firstImage, .int (q7_gathered o0)])), (a0_closed, .inl (zI Z, 256, .inl (q7_closed o0))), (a0_faces, .inl (zI Z, 256, .inl (q7_faces o0)))]) rfl rfl rfl rfl ?_
  unfold fX7_coverCount_L5 at h
  refine g_iload C dX7_coverCount_5 4 rfl ?_
  refine g_aload_n C dX7_coverCount_7 rfl 0 rfl ?_
  refine g_get C 7 214 gin7 0 rfl rfl 18 (by decide) mw_5_103 rfl rfl dX7_coverCount_8 ?_
  refine g_icmp_ge C 55 dX7_coverCount_11 (by decide) (fun c2 => ?_) (fun c2 => ?_)
  · replace h := it_t c2 h
    obtain ⟨r3, h, hy⟩ := ex_of h
    rw [hx1 r3 hy] at h
    refine g_iload_n C dX7_coverCount_55 rfl 3 rfl ?_
    obtain rfl := Option.some.inj h
    subst hQ
    exact g_iret C rfl hr hlk dX7_coverCount_56 [0, 1, 2] rfl (by decide)
  · replace h := it_f c2 h
    refine g_iload_n C dX7_coverCount_14 rfl 3 rfl ?_
    refine g_iload_n C dX7_coverCount_15 rfl 2 rfl ?_
    refine g_if_eq C 32 dX7_coverCount_16 (by decide) (fun c4 => ?_) (fun c4 => ?_)
    · replace h := it_t c4 h
      refine g_aload_n C dX7_coverCount_32 rfl 0 rfl ?_
      refine g_iload_n C dX7_coverCount_33 rfl 1 rfl ?_
      refine g_iload C dX7_coverCount_34 4 rfl ?_
      obtain ⟨r5, hr6, h⟩ := bd_of h
      refine g_callVi C (kX7_covers l Z a0 a0_buffer a0_now a0_made a0_history a0_saved a0_closed a0_faces a0_rankOf a0_placeOf a0_counted a0_steps a0_onto a0_goes a0_firstImage o0 p1 v1.2 r5 hr6) 0 rfl (ci := 7) rfl rfl myX7_covers 241 mw_6_152 rfl [0, 1, 2] [] [0, 1, 2] (wr := []) rfl rfl (by decide) (by decide) (by decide) [(a0, .inr (7, [.int (q7_thrown o0), .ref a0_buffer, .int (q7_length o0), .int (q7_at o0), .int (q7_from o0), .int (q7_kind o0), .int (q7_number o0), .int (q7_wrong o0), .ref a0_now, .ref a0_made, .ref a0_history, .ref a0_saved, .int (q7_entries o0), .int (q7_isSaved o0), .ref a0_closed, .ref a0_faces, .ref a0_rankOf, .ref a0_placeOf, .int (q7_faceMany o0), .int (q7_isLaid o0), .ref a0_counted, .ref a0_steps, .ref a0_onto, .ref a0_goes, .int (q7_found o0), .int (q7_images o0), .ref a0_firstImage, .int (q7_gathered o0)])), (a0_closed, .inl (zI Z, 256, .inl (q7_closed o0))), (a0_faces, .inl (zI Z, 256, .inl (q7_faces o0)))] rfl (by decide) (Nat.le_of_ble_eq_true rfl) (by rw [hR]; exact Nat.le_of_ble_eq_true rfl) (by rw [hR]; exact Nat.le_of_ble_eq_true rfl) ⟨by rw [hR]; exact Nat.le_of_ble_eq_true rfl, by rw [hR]; exact Nat.le_of_ble_eq_true rfl⟩ rfl dX7_coverCount_36 ?_
      refine g_if_eq C 46 dX7_coverCount_39 (by decide) (fun c7 => ?_) (fun c7 => ?_)
      · replace h := it_t c7 h
        refine g_iconst C 0 dX7_coverCount_46 (by decide) ?_
        refine g_iadd C dX7_coverCount_47 ?_
        refine g_istore_n C dX7_coverCount_48 rfl (by decide) [(3, .int (v1.1 + 0)), (0, .ref a0), (1, .int p1), (2, .int p2), (4, .int v1.2)] rfl ?_
        refine g_iinc C (v1.2 + 1) dX7_coverCount_49 4 rfl rfl (by decide) [(4, .int (v1.2 + 1)), (3, .int (v1.1 + 0)), (0, .ref a0), (1, .int p1), (2, .int p2)] rfl ?_
        refine g_goto C 5 dX7_coverCount_52 (by decide) ?_
        refine g_lv [2, 3, 4, 1, 0] [(0, .ref a0), (1, .int p1), (2, .int p2), (3, .int (v1.1 + 0)), (4, .int (v1.2 + 1))] rfl ?_
        exact hk1 ((v1.1 + 0), (v1.2 + 1)) (Option.some.inj h).symm
      · replace h := it_f c7 h
        refine g_iconst C 1 dX7_coverCount_42 (by decide) ?_
        refine g_goto C 47 dX7_coverCount_43 (by decide) ?_
        refine g_iadd C dX7_coverCount_47 ?_
        refine g_istore_n C dX7_coverCount_48 rfl (by decide) [(3, .int (v1.1 + 1)), (0, .ref a0), (1, .int p1), (2, .int p2), (4, .int v1.2)] rfl ?_
        refine g_iinc C (v1.2 + 1) dX7_coverCount_49 4 rfl rfl (by decide) [(4, .int (v1.2 + 1)), (3, .int (v1.1 + 1)), (0, .ref a0), (1, .int p1), (2, .int p2)] rfl ?_
        refine g_goto C 5 dX7_coverCount_52 (by decide) ?_
        refine g_lv [2, 3, 4, 1, 0] [(0, .ref a0), (1, .int p1), (2, .int p2), (3, .int (v1.1 + 1)), (4, .int (v1.2 + 1))] rfl ?_
        exact hk1 ((v1.1 + 1), (v1.2 + 1)) (Option.some.inj h).symm
    · replace h := it_f c4 h
      refine g_aload_n C dX7_coverCount_19 rfl 0 rfl ?_
      refine g_iload C dX7_coverCount_20 4 rfl ?_
      refine g_iload_n C dX7_coverCount_22 rfl 1 rfl ?_
      obtain ⟨r8, hr9, h⟩ := bd_of h
      refine g_callVi C (kX7_covers l Z a0 a0_buffer a0_now a0_made a0_history a0_saved a0_closed a0_faces a0_rankOf a0_placeOf a0_counted a0_steps a0_onto a0_goes a0_firstImage o0 v1.2 p1 r8 hr9) 0 rfl (ci := 7) rfl rfl myX7_covers 241 mw_6_152 rfl [0, 1, 2] [] [0, 1, 2] (wr := []) rfl rfl (by decide) (by decide) (by decide) [(a0, .inr (7, [.int (q7_thrown o0), .ref a0_buffer, .int (q7_length o0), .int (q7_at o0), .int (q7_from o0), .int (q7_kind o0), .int (q7_number o0), .int (q7_wrong o0), .ref a0_now, .ref a0_made, .ref a0_history, .ref a0_saved, .int (q7_entries o0), .int (q7_isSaved o0), .ref a0_closed, .ref a0_faces, .ref a0_rankOf, .ref a0_placeOf, .int (q7_faceMany o0), .int (q7_isLaid o0), .ref a0_counted, .ref a0_steps, .ref a0_onto, .ref a0_goes, .int (q7_found o0), .int (q7_images o0), .ref a0_firstImage, .int (q7_gathered o0)])), (a0_closed, .inl (zI Z, 256, .inl (q7_closed o0))), (a0_faces, .inl (zI Z, 256, .inl (q7_faces o0)))] rfl (by decide) (Nat.le_of_ble_eq_true rfl) (by rw [hR]; exact Nat.le_of_ble_eq_true rfl) (by rw [hR]; exact Nat.le_of_ble_eq_true rfl) ⟨by rw [hR]; exact Nat.le_of_ble_eq_true rfl, by rw [hR]; exact Nat.le_of_ble_eq_true rfl⟩ rfl dX7_coverCount_23 ?_
      refine g_if_eq C 46 dX7_coverCount_26 (by decide) (fun c10 => ?_) (fun c10 => ?_)
      · replace h := it_t c10 h
        refine g_iconst C 0 dX7_coverCount_46 (by decide) ?_
        refine g_iadd C dX7_coverCount_47 ?_
        refine g_istore_n C dX7_coverCount_48 rfl (by decide) [(3, .int (v1.1 + 0)), (0, .ref a0), (1, .int p1), (2, .int p2), (4, .int v1.2)] rfl ?_
        refine g_iinc C (v1.2 + 1) dX7_coverCount_49 4 rfl rfl (by decide) [(4, .int (v1.2 + 1)), (3, .int (v1.1 + 0)), (0, .ref a0), (1, .int p1), (2, .int p2)] rfl ?_
        refine g_goto C 5 dX7_coverCount_52 (by decide) ?_
        refine g_lv [2, 3, 4, 1, 0] [(0, .ref a0), (1, .int p1), (2, .int p2), (3, .int (v1.1 + 0)), (4, .int (v1.2 + 1))] rfl ?_
        exact hk1 ((v1.1 + 0), (v1.2 + 1)) (Option.some.inj h).symm
      · replace h := it_f c10 h
        refine g_goto C 42 dX7_coverCount_29 (by decide) ?_
        refine g_iconst C 1 dX7_coverCount_42 (by decide) ?_
        refine g_goto C 47 dX7_coverCount_43 (by decide) ?_
        refine g_iadd C dX7_coverCount_47 ?_
        refine g_istore_n C dX7_coverCount_48 rfl (by decide) [(3, .int (v1.1 + 1)), (0, .ref a0), (1, .int p1), (2, .int p2), (4, .int v1.2)] rfl ?_
        refine g_iinc C (v1.2 + 1) dX7_coverCount_49 4 rfl rfl (by decide) [(4, .int (v1.2 + 1)), (3, .int (v1.1 + 1)), (0, .ref a0), (1, .int p1), (2, .int p2)] rfl ?_
        refine g_goto C 5 dX7_coverCount_52 (by decide) ?_
        refine g_lv [2, 3, 4, 1, 0] [(0, .ref a0), (1, .int p1), (2, .int p2), (3, .int (v1.1 + 1)), (4, .int (v1.2 + 1))] rfl ?_
        exact hk1 ((v1.1 + 1), (v1.2 + 1)) (Option.some.inj h).symm
def fX7_stack_L148 (o0 : OX7) (p1 : Int32) (r6 : OX7) (r13 : Int32 × OX7) (r16 : OX7) (v23 : Int32 × (Nat → Int32)) : Option ((Int32 × (Nat → Int32)) ⊕ (Int32 × OX7)) :=
  if (q7_faceMany r6) ≤ v23.1 then (ex ((fX7_takeMade (s7_isLaid (s7_faceMany (s7_placeOf (s7_rankOf (s7_faces (s7_closed (s7_entries (s7_history (s7_made (s7_thrown o0 (q7_thrown r13.2)) v23.2) (q7_history r16)) (q7_entries r16)) (q7_closed r6)) (q7_faces r6)) (q7_rankOf r6)) (q7_placeOf r6)) (q7_faceMany r6)) (q7_isLaid r16))).bind fun r26 =>
  (some (((q7_now r26) (ix 1)), (s7_isLaid (s7_faceMany (s7_placeOf (s7_rankOf (s7_faces (s7_closed (s7_entries (s7_history (s7_made (s7_now (s7_thrown o0 (q7_thrown r13.2)) (q7_now r26)) v23.2) (q7_history r16)) (q7_entries r16)) (q7_closed r6)) (q7_faces r6)) (q7_rankOf r6)) (q7_placeOf r6)) (q7_faceMany r6)) (q7_isLaid r26))))))
  else ((fX7_covers (s7_isLaid (s7_faceMany (s7_placeOf (s7_rankOf (s7_faces (s7_closed (s7_entries (s7_history (s7_made (s7_thrown o0 (q7_thrown r13.2)) v23.2) (q7_history r16)) (q7_entries r16)) (q7_closed r6)) (q7_faces r6)) (q7_rankOf r6)) (q7_placeOf r6)) (q7_faceMany r6)) (q7_isLaid r16)) ((q7_placeOf r6) (ix ((q7_now o0) (ix (2 + p1))))) v23.1).bind fun r28 =>
  (if r28 = 0 then (some (.inl ((v23.1 + 1), v23.2)))
  else (ck (okI v23.1 256) ((fX7_add (s7_isLaid (s7_faceMany (s7_placeOf (s7_rankOf (s7_faces (s7_closed (s7_entries (s7_history (s7_made (s7_thrown o0 (q7_thrown r13.2)) v23.2) (q7_history r16)) (q7_entries r16)) (q7_closed r6)) (q7_faces r6)) (q7_rankOf r6)) (q7_placeOf r6)) (q7_faceMany r6)) (q7_isLaid r16)) (((q7_faces r6) (ix v23.1)) ||| (jshl 1 ((q7_now o0) (ix 0))))).bind fun r32 =>
  (some (.inl ((v23.1 + 1), (q7_made r32))))))))
def fX7_stack_L109 (o0 : OX7) (p1 : Int32) (r6 : OX7) (r13 : Int32 × OX7) (r16 : OX7) (v20 : Int32 × (Nat → Int32)) : Option ((Int32 × (Nat → Int32)) ⊕ (Int32 × OX7)) :=
  if ((q7_now o0) (ix 1)) ≤ v20.1 then (ex (lp (fX7_stack_L148 o0 p1 r6 r13 r16) lpN (0, v20.2)))
  else (if v20.1 = p1 then (some (.inl ((v20.1 + 1), v20.2)))
  else (ck (okI (2 + v20.1) 12) ((fX7_add (s7_isLaid (s7_faceMany (s7_placeOf (s7_rankOf (s7_faces (s7_closed (s7_entries (s7_history (s7_made (s7_thrown o0 (q7_thrown r13.2)) v20.2) (q7_history r16)) (q7_entries r16)) (q7_closed r6)) (q7_faces r6)) (q7_rankOf r6)) (q7_placeOf r6)) (q7_faceMany r6)) (q7_isLaid r16)) ((q7_now o0) (ix (2 + v20.1)))).bind fun r36 =>
  (some (.inl ((v20.1 + 1), (q7_made r36)))))))
def fX7_stack_J81 (o0 : OX7) (p1 : Int32) (r3 : Int32 × OX7) (r6 : OX7) (x12 : Int32) : Option (Int32 × OX7) :=
  (fX7_fails (s7_isLaid (s7_faceMany (s7_placeOf (s7_rankOf (s7_faces (s7_closed (s7_thrown o0 (q7_thrown r3.2)) (q7_closed r6)) (q7_faces r6)) (q7_rankOf r6)) (q7_placeOf r6)) (q7_faceMany r6)) (q7_isLaid r6)) x12 2).bind fun r13 =>
  (if r13.1 = 0 then ((fX7_record (s7_isLaid (s7_faceMany (s7_placeOf (s7_rankOf (s7_faces (s7_closed (s7_thrown o0 (q7_thrown r13.2)) (q7_closed r6)) (q7_faces r6)) (q7_rankOf r6)) (q7_placeOf r6)) (q7_faceMany r6)) (q7_isLaid r6))).bind fun r16 =>
  ((fX7_begin (s7_isLaid (s7_faceMany (s7_placeOf (s7_rankOf (s7_faces (s7_closed (s7_entries (s7_history (s7_thrown o0 (q7_thrown r13.2)) (q7_history r16)) (q7_entries r16)) (q7_closed r6)) (q7_faces r6)) (q7_rankOf r6)) (q7_placeOf r6)) (q7_faceMany r6)) (q7_isLaid r16)) (((q7_now o0) (ix 0)) + 1)).bind fun r18 =>
  (lp (fX7_stack_L109 o0 p1 r6 r13 r16) lpN (0, (q7_made r18)))))
  else (some (0, (s7_isLaid (s7_faceMany (s7_placeOf (s7_rankOf (s7_faces (s7_closed (s7_thrown o0 (q7_thrown r13.2)) (q7_closed r6)) (q7_faces r6)) (q7_rankOf r6)) (q7_placeOf r6)) (q7_faceMany r6)) (q7_isLaid r6)))))
def fX7_stack_J80 (o0 : OX7) (p1 : Int32) (r3 : Int32 × OX7) (r6 : OX7) : Option (Int32 × OX7) :=
  fX7_stack_J81 o0 p1 r3 r6 0
def fX7_stack (o0 : OX7) (p1 : Int32) : Option (Int32 × OX7) :=
  (fX7_isFacet (s7_thrown o0 0) p1).bind fun r1 =>
  ((fX7_fails (s7_thrown o0 0) r1 1).bind fun r3 =>
  (if r3.1 = 0 then ((fX7_lay (s7_thrown o0 (q7_thrown r3.2))).bind fun r6 =>
  (ck (okI (2 + p1) 12) (ck (okI ((q7_now o0) (ix (2 + p1))) 256) ((fX7_coverCount (s7_isLaid (s7_faceMany (s7_placeOf (s7_rankOf (s7_faces (s7_closed (s7_thrown o0 (q7_thrown r3.2)) (q7_closed r6)) (q7_faces r6)) (q7_rankOf r6)) (q7_placeOf r6)) (q7_faceMany r6)) (q7_isLaid r6)) ((q7_placeOf r6) (ix ((q7_now o0) (ix (2 + p1))))) 0).bind fun r10 =>
  (if r10 ≤ 0 then (fX7_stack_J80 o0 p1 r3 r6)
  else (if 8 ≤ ((q7_now o0) (ix 0)) then (fX7_stack_J80 o0 p1 r3 r6)
  else (if 10 < ((((q7_now o0) (ix 1)) - 1) + r10) then (fX7_stack_J80 o0 p1 r3 r6)
  else (fX7_stack_J81 o0 p1 r3 r6 1))))))))
  else (some (0, (s7_thrown o0 (q7_thrown r3.2))))))
theorem myX7_stack : MYv yX7_stack cX7_stack 5 (some .int) 1 := ⟨mw_6_145, mw_6_146, mw_6_147, mw_1_9, ⟨by decide +kernel, by decide +kernel⟩, by decide +kernel⟩
set_option maxRecDepth 100000 in
set_option maxHeartbeats 4000000 in
theorem kX7_stack (l : Launch) (Z : GZ) (a0 a0_buffer a0_now a0_made a0_history a0_saved a0_closed a0_faces a0_rankOf a0_placeOf a0_counted a0_steps a0_onto a0_goes a0_firstImage : Nat) (o0 : OX7) (p1 : Int32) (res : Int32 × OX7) (h : fX7_stack o0 p1 = some res) : MI l Z yX7_stack cX7_stack 5 .int 4 90 [.ref a0, .int p1] [(a0, .inr (7, [.int (q7_thrown o0), .ref a0_buffer, .int (q7_length o0), .int (q7_at o0), .int (q7_from o0), .int (q7_kind o0), .int (q7_number o0), .int (q7_wrong o0), .ref a0_now, .ref a0_made, .ref a0_history, .ref a0_saved, .int (q7_entries o0), .int (q7_isSaved o0), .ref a0_closed, .ref a0_faces, .ref a0_rankOf, .ref a0_placeOf, .int (q7_faceMany o0), .int (q7_isLaid o0), .ref a0_counted, .ref a0_steps, .ref a0_onto, .ref a0_goes, .int (q7_found o0), .int (q7_images o0), .ref a0_firstImage, .int (q7_gathered o0)])), (a0_now, .inl (zI Z, 12, .inl (q7_now o0))), (a0_made, .inl (zI Z, 12, .inl (q7_made o0))), (a0_history, .inl (zI Z, 96, .inl (q7_history o0))), (a0_closed, .inl (zI Z, 256, .inl (q7_closed o0))), (a0_faces, .inl (zI Z, 256, .inl (q7_faces o0))), (a0_rankOf, .inl (zI Z, 256, .inl (q7_rankOf o0))), (a0_placeOf, .inl (zI Z, 256, .inl (q7_placeOf o0)))] res.1 [(a0, .inr (7, [.int (q7_thrown res.2), .ref a0_buffer, .int (q7_length o0), .int (q7_at o0), .int (q7_from o0), .int (q7_kind o0), .int (q7_number o0), .int (q7_wrong o0), .ref a0_now, .ref a0_made, .ref a0_history, .ref a0_saved, .int (q7_entries res.2), .int (q7_isSaved o0), .ref a0_closed, .ref a0_faces, .ref a0_rankOf, .ref a0_placeOf, .int (q7_faceMany res.2), .int (q7_isLaid res.2), .ref a0_counted, .ref a0_steps, .ref a0_onto, .ref a0_goes, .int (q7_found o0), .int (q7_images o0), .ref a0_firstImage, .int (q7_gathered o0)])), (a0_now, .inl (zI Z, 12, .inl (q7_now res.2))), (a0_made, .inl (zI Z, 12, .inl (q7_made res.2))), (a0_history, .inl (zI Z, 96, .inl (q7_history res.2))), (a0_closed, .inl (zI Z, 256, .inl (q7_closed res.2))), (a0_faces, .inl (zI Z, 256, .inl (q7_faces res.2))), (a0_rankOf, .inl (zI Z, 256, .inl (q7_rankOf res.2))), (a0_placeOf, .inl (zI Z, 256, .inl (q7_placeOf res.2)))] := by
  refine MI_of (by decide +kernel) (Nat.le_of_ble_eq_true rfl) (fun {p e s m args below meth c} A R hR Q hQ C hr hlk => ?_)
  unfold fX7_stack at h
  refine g_lv [0, 1] [(0, .ref a0), (1, .int p1)] rfl ?_
  refine g_aload_n C dX7_stack_0 rfl 0 rfl ?_
  refine g_iconst C 0 dX7_stack_1 (by decide) ?_
  refine g_put C 7 52 gin7 tyX7 tyX7_ok nmX7 0 rfl rfl 0 (by decide) mw_5_85 rfl rfl (ty := .int) (by decide +kernel) rfl rfl (Nat.le_of_ble_eq_true rfl) [(a0, .inr (7, [.int 0, .ref a0_buffer, .int (q7_length o0), .int (q7_at o0), .int (q7_from o0), .int (q7_kind o0), .int (q7_number o0), .int (q7_wrong o0), .ref a0_now, .ref a0_made, .ref a0_history, .ref a0_saved, .int (q7_entries o0), .int (q7_isSaved o0), .ref a0_closed, .ref a0_faces, .ref a0_rankOf, .ref a0_placeOf, .int (q7_faceMany o0), .int (q7_isLaid o0), .ref a0_counted, .ref a0_steps, .ref a0_onto, .ref a0_goes, .int (q7_found o0), .int (q7_images o0), .ref a0_firstImage, .int (q7_gathered o0)])), (a0_now, .inl (zI Z, 12, .inl (q7_now o0))), (a0_made, .inl (zI Z, 12, .inl (q7_made o0))), (a0_history, .inl (zI Z, 96, .inl (q7_history o0))), (a0_closed, .inl (zI Z, 256, .inl (q7_closed o0))), (a0_faces, .inl (zI Z, 256, .inl (q7_faces o0))), (a0_rankOf, .inl (zI Z, 256, .inl (q7_rankOf o0))), (a0_placeOf, .inl (zI Z, 256, .inl (q7_placeOf o0)))] rfl dX7_stack_2 ?_
  refine g_aload_n C dX7_stack_5 rfl 0 rfl ?_
  refine g_aload_n C dX7_stack_6 rfl 0 rfl ?_
  refine g_iload_n C dX7_stack_7 rfl 1 rfl ?_
  obtain ⟨r1, hr2, h⟩ := bd_of h
  refine g_callVi C (kX7_isFacet l Z a0 a0_buffer a0_now a0_made a0_history a0_saved a0_closed a0_faces a0_rankOf a0_placeOf a0_counted a0_steps a0_onto a0_goes a0_firstImage (s7_thrown o0 0) p1 r1 hr2) 0 rfl (ci := 7) rfl rfl myX7_isFacet 223 mw_6_80 rfl [0, 1] [2, 3, 4, 5, 6, 7] [6, 7, 0, 1, 2, 3, 4, 5] (wr := [(a0_made, .inl (zI Z, 12, .inl (q7_made o0))), (a0_history, .inl (zI Z, 96, .inl (q7_history o0))), (a0_closed, .inl (zI Z, 256, .inl (q7_closed o0))), (a0_faces, .inl (zI Z, 256, .inl (q7_faces o0))), (a0_rankOf, .inl (zI Z, 256, .inl (q7_rankOf o0))), (a0_placeOf, .inl (zI Z, 256, .inl (q7_placeOf o0)))]) rfl rfl (by decide) (by decide) (by decide) [(a0, .inr (7, [.int 0, .ref a0_buffer, .int (q7_length o0), .int (q7_at o0), .int (q7_from o0), .int (q7_kind o0), .int (q7_number o0), .int (q7_wrong o0), .ref a0_now, .ref a0_made, .ref a0_history, .ref a0_saved, .int (q7_entries o0), .int (q7_isSaved o0), .ref a0_closed, .ref a0_faces, .ref a0_rankOf, .ref a0_placeOf, .int (q7_faceMany o0), .int (q7_isLaid o0), .ref a0_counted, .ref a0_steps, .ref a0_onto, .ref a0_goes, .int (q7_found o0), .int (q7_images o0), .ref a0_firstImage, .int (q7_gathered o0)])), (a0_now, .inl (zI Z, 12, .inl (q7_now o0))), (a0_made, .inl (zI Z, 12, .inl (q7_made o0))), (a0_history, .inl (zI Z, 96, .inl (q7_history o0))), (a0_closed, .inl (zI Z, 256, .inl (q7_closed o0))), (a0_faces, .inl (zI Z, 256, .inl (q7_faces o0))), (a0_rankOf, .inl (zI Z, 256, .inl (q7_rankOf o0))), (a0_placeOf, .inl (zI Z, 256, .inl (q7_placeOf o0)))] rfl (by decide) (Nat.le_of_ble_eq_true rfl) (by rw [hR]; exact Nat.le_of_ble_eq_true rfl) (by rw [hR]; exact Nat.le_of_ble_eq_true rfl) ⟨by rw [hR]; exact Nat.le_of_ble_eq_true rfl, by rw [hR]; exact Nat.le_of_ble_eq_true rfl⟩ rfl dX7_stack_8 ?_
  refine g_iconst C 1 dX7_stack_11 (by decide) ?_
  obtain ⟨r3, hr4, h⟩ := bd_of h
  refine g_callVi C (kX7_fails l Z a0 a0_buffer a0_now a0_made a0_history a0_saved a0_closed a0_faces a0_rankOf a0_placeOf a0_counted a0_steps a0_onto a0_goes a0_firstImage (s7_thrown o0 0) r1 1 r3 hr4) 0 rfl (ci := 7) rfl rfl myX7_fails 63 mw_5_181 rfl [0] [1, 2, 3, 4, 5, 6, 7] [7, 0, 1, 2, 3, 4, 5, 6] (wr := [(a0_now, .inl (zI Z, 12, .inl (q7_now o0))), (a0_made, .inl (zI Z, 12, .inl (q7_made o0))), (a0_history, .inl (zI Z, 96, .inl (q7_history o0))), (a0_closed, .inl (zI Z, 256, .inl (q7_closed o0))), (a0_faces, .inl (zI Z, 256, .inl (q7_faces o0))), (a0_rankOf, .inl (zI Z, 256, .inl (q7_rankOf o0))), (a0_placeOf, .inl (zI Z, 256, .inl (q7_placeOf o0)))]) rfl rfl (by decide) (by decide) (by decide) [(a0, .inr (7, [.int (q7_thrown r3.2), .ref a0_buffer, .int (q7_length o0), .int (q7_at o0), .int (q7_from o0), .int (q7_kind o0), .int (q7_number o0), .int (q7_wrong o0), .ref a0_now, .ref a0_made, .ref a0_history, .ref a0_saved, .int (q7_entries o0), .int (q7_isSaved o0), .ref a0_closed, .ref a0_faces, .ref a0_rankOf, .ref a0_placeOf, .int (q7_faceMany o0), .int (q7_isLaid o0), .ref a0_counted, .ref a0_steps, .ref a0_onto, .ref a0_goes, .int (q7_found o0), .int (q7_images o0), .ref a0_firstImage, .int (q7_gathered o0)])), (a0_now, .inl (zI Z, 12, .inl (q7_now o0))), (a0_made, .inl (zI Z, 12, .inl (q7_made o0))), (a0_history, .inl (zI Z, 96, .inl (q7_history o0))), (a0_closed, .inl (zI Z, 256, .inl (q7_closed o0))), (a0_faces, .inl (zI Z, 256, .inl (q7_faces o0))), (a0_rankOf, .inl (zI Z, 256, .inl (q7_rankOf o0))), (a0_placeOf, .inl (zI Z, 256, .inl (q7_placeOf o0)))] rfl (by decide) (Nat.le_of_ble_eq_true rfl) (by rw [hR]; exact Nat.le_of_ble_eq_true rfl) (by rw [hR]; exact Nat.le_of_ble_eq_true rfl) ⟨by rw [hR]; exact Nat.le_of_ble_eq_true rfl, by rw [hR]; exact Nat.le_of_ble_eq_true rfl⟩ rfl dX7_stack_12 ?_
  refine g_if_eq C 20 dX7_stack_15 (by decide) (fun c5 => ?_) (fun c5 => ?_)
  · replace h := it_t c5 h
    refine g_aload_n C dX7_stack_20 rfl 0 rfl ?_
    obtain ⟨r6, hr7, h⟩ := bd_of h
    refine g_callVv C (kX7_lay l Z a0 a0_buffer a0_now a0_made a0_history a0_saved a0_closed a0_faces a0_rankOf a0_placeOf a0_counted a0_steps a0_onto a0_goes a0_firstImage (s7_thrown o0 (q7_thrown r3.2)) r6 hr7) 0 rfl (ci := 7) rfl rfl myX7_lay 217 mw_6_120 rfl [0, 1, 4, 5, 6, 7] [2, 3] [2, 3, 0, 1, 4, 5, 6, 7] (wr := [(a0_made, .inl (zI Z, 12, .inl (q7_made o0))), (a0_history, .inl (zI Z, 96, .inl (q7_history o0)))]) rfl rfl (by decide) (by decide) (by decide) [(a0, .inr (7, [.int (q7_thrown r3.2), .ref a0_buffer, .int (q7_length o0), .int (q7_at o0), .int (q7_from o0), .int (q7_kind o0), .int (q7_number o0), .int (q7_wrong o0), .ref a0_now, .ref a0_made, .ref a0_history, .ref a0_saved, .int (q7_entries o0), .int (q7_isSaved o0), .ref a0_closed, .ref a0_faces, .ref a0_rankOf, .ref a0_placeOf, .int (q7_faceMany r6), .int (q7_isLaid r6), .ref a0_counted, .ref a0_steps, .ref a0_onto, .ref a0_goes, .int (q7_found o0), .int (q7_images o0), .ref a0_firstImage, .int (q7_gathered o0)])), (a0_now, .inl (zI Z, 12, .inl (q7_now o0))), (a0_made, .inl (zI Z, 12, .inl (q7_made o0))), (a0_history, .inl (zI Z, 96, .inl (q7_history o0))), (a0_closed, .inl (zI Z, 256, .inl (q7_closed r6))), (a0_faces, .inl (zI Z, 256, .inl (q7_faces r6))), (a0_rankOf, .inl (zI Z, 256, .inl (q7_rankOf r6))), (a0_placeOf, .inl (zI Z, 256, .inl (q7_placeOf r6)))] rfl (by decide) (Nat.le_of_ble_eq_true rfl) (by rw [hR]; exact Nat.le_of_ble_eq_true rfl) (by rw [hR]; exact Nat.le_of_ble_eq_true rfl) ⟨by rw [hR]; exact Nat.le_of_ble_eq_true rfl, by rw [hR]; exact Nat.le_of_ble_eq_true rfl⟩ rfl dX7_stack_21 ?_
    refine g_aload_n C dX7_stack_24 rfl 0 rfl ?_
    refine g_get C 7 34 gin7 0 rfl rfl 17 (by decide) mw_5_102 rfl rfl dX7_stack_25 ?_
    refine g_aload_n C dX7_stack_28 rfl 0 rfl ?_
    refine g_get C 7 13 gin7 0 rfl rfl 8 (by decide) mw_5_93 rfl rfl dX7_stack_29 ?_
    refine g_iconst C 2 dX7_stack_32 (by decide) ?_
    refine g_iload_n C dX7_stack_33 rfl 1 rfl ?_
    refine g_iadd C dX7_stack_34 ?_
    obtain ⟨hi8, h⟩ := ck_of h
    refine g_iald C 1 rfl hi8 dX7_stack_35 ?_
    obtain ⟨hi9, h⟩ := ck_of h
    refine g_iald C 7 rfl hi9 dX7_stack_36 ?_
    refine g_istore_n C dX7_stack_37 rfl (by decide) [(2, .int ((q7_placeOf r6) (ix ((q7_now o0) (ix (2 + p1)))))), (0, .ref a0), (1, .int p1)] rfl ?_
    refine g_aload_n C dX7_stack_38 rfl 1 rfl ?_
    refine g_iload_n C dX7_stack_39 rfl 0 rfl ?_
    refine g_iconst C 0 dX7_stack_40 (by decide) ?_
    obtain ⟨r10, hr11, h⟩ := bd_of h
    refine g_callVi C (kX7_coverCount l Z a0 a0_buffer a0_now a0_made a0_history a0_saved a0_closed a0_faces a0_rankOf a0_placeOf a0_counted a0_steps a0_onto a0_goes a0_firstImage (s7_isLaid (s7_faceMany (s7_placeOf (s7_rankOf (s7_faces (s7_closed (s7_thrown o0 (q7_thrown r3.2)) (q7_closed r6)) (q7_faces r6)) (q7_rankOf r6)) (q7_placeOf r6)) (q7_faceMany r6)) (q7_isLaid r6)) ((q7_placeOf r6) (ix ((q7_now o0) (ix (2 + p1))))) 0 r10 hr11) 0 rfl (ci := 7) rfl rfl myX7_coverCount 244 mw_6_148 rfl [0, 4, 5] [1, 2, 3, 6, 7] [5, 0, 1, 2, 6, 7, 3, 4] (wr := [(a0_now, .inl (zI Z, 12, .inl (q7_now o0))), (a0_made, .inl (zI Z, 12, .inl (q7_made o0))), (a0_history, .inl (zI Z, 96, .inl (q7_history o0))), (a0_rankOf, .inl (zI Z, 256, .inl (q7_rankOf r6))), (a0_placeOf, .inl (zI Z, 256, .inl (q7_placeOf r6)))]) rfl rfl (by decide) (by decide) (by decide) [(a0, .inr (7, [.int (q7_thrown r3.2), .ref a0_buffer, .int (q7_length o0), .int (q7_at o0), .int (q7_from o0), .int (q7_kind o0), .int (q7_number o0), .int (q7_wrong o0), .ref a0_now, .ref a0_made, .ref a0_history, .ref a0_saved, .int (q7_entries o0), .int (q7_isSaved o0), .ref a0_closed, .ref a0_faces, .ref a0_rankOf, .ref a0_placeOf, .int (q7_faceMany r6), .int (q7_isLaid r6), .ref a0_counted, .ref a0_steps, .ref a0_onto, .ref a0_goes, .int (q7_found o0), .int (q7_images o0), .ref a0_firstImage, .int (q7_gathered o0)])), (a0_now, .inl (zI Z, 12, .inl (q7_now o0))), (a0_made, .inl (zI Z, 12, .inl (q7_made o0))), (a0_history, .inl (zI Z, 96, .inl (q7_history o0))), (a0_closed, .inl (zI Z, 256, .inl (q7_closed r6))), (a0_faces, .inl (zI Z, 256, .inl (q7_faces r6))), (a0_rankOf, .inl (zI Z, 256, .inl (q7_rankOf r6))), (a0_placeOf, .inl (zI Z, 256, .inl (q7_placeOf r6)))] rfl (by decide) (Nat.le_of_ble_eq_true rfl) (by rw [hR]; exact Nat.le_of_ble_eq_true rfl) (by rw [hR]; exact Nat.le_of_ble_eq_true rfl) ⟨by rw [hR]; exact Nat.le_of_ble_eq_true rfl, by rw [hR]; exact Nat.le_of_ble_eq_true rfl⟩ rfl dX7_stack_41 ?_
    refine g_istore_n C dX7_stack_44 rfl (by decide) [(3, .int r10), (2, .int ((q7_placeOf r6) (ix ((q7_now o0) (ix (2 + p1)))))), (0, .ref a0), (1, .int p1)] rfl ?_
    refine g_aload_n C dX7_stack_45 rfl 2 rfl ?_
    refine g_iload_n C dX7_stack_46 rfl 0 rfl ?_
    have hj81 : ∀ (x12 : Int32), fX7_stack_J81 o0 p1 r3 r6 x12 = some res → Gw p l e R s m args below meth c 5 Z A Q 0 0 81 [(0, .ref a0), (1, .int p1), (2, .int ((q7_placeOf r6) (ix ((q7_now o0) (ix (2 + p1))))))] [.int x12, .ref a0] [(a0, .inr (7, [.int (q7_thrown r3.2), .ref a0_buffer, .int (q7_length o0), .int (q7_at o0), .int (q7_from o0), .int (q7_kind o0), .int (q7_number o0), .int (q7_wrong o0), .ref a0_now, .ref a0_made, .ref a0_history, .ref a0_saved, .int (q7_entries o0), .int (q7_isSaved o0), .ref a0_closed, .ref a0_faces, .ref a0_rankOf, .ref a0_placeOf, .int (q7_faceMany r6), .int (q7_isLaid r6), .ref a0_counted, .ref a0_steps, .ref a0_onto, .ref a0_goes, .int (q7_found o0), .int (q7_images o0), .ref a0_firstImage, .int (q7_gathered o0)])), (a0_now, .inl (zI Z, 12, .inl (q7_now o0))), (a0_made, .inl (zI Z, 12, .inl (q7_made o0))), (a0_history, .inl (zI Z, 96, .inl (q7_history o0))), (a0_closed, .inl (zI Z, 256, .inl (q7_closed r6))), (a0_faces, .inl (zI Z, 256, .inl (q7_faces r6))), (a0_rankOf, .inl (zI Z, 256, .inl (q7_rankOf r6))), (a0_placeOf, .inl (zI Z, 256, .inl (q7_placeOf r6)))] := by
      intro x12 h
      unfold fX7_stack_J81 at h
      refine g_iconst C 2 dX7_stack_81 (by decide) ?_
      obtain ⟨r13, hr14, h⟩ := bd_of h
      refine g_callVi C (kX7_fails l Z a0 a0_buffer a0_now a0_made a0_history a0_saved a0_closed a0_faces a0_rankOf a0_placeOf a0_counted a0_steps a0_onto a0_goes a0_firstImage (s7_isLaid (s7_faceMany (s7_placeOf (s7_rankOf (s7_faces (s7_closed (s7_thrown o0 (q7_thrown r3.2)) (q7_closed r6)) (q7_faces r6)) (q7_rankOf r6)) (q7_placeOf r6)) (q7_faceMany r6)) (q7_isLaid r6)) x12 2 r13 hr14) 0 rfl (ci := 7) rfl rfl myX7_fails 63 mw_5_181 rfl [0] [1, 2, 3, 4, 5, 6, 7] [7, 0, 1, 2, 3, 4, 5, 6] (wr := [(a0_now, .inl (zI Z, 12, .inl (q7_now o0))), (a0_made, .inl (zI Z, 12, .inl (q7_made o0))), (a0_history, .inl (zI Z, 96, .inl (q7_history o0))), (a0_closed, .inl (zI Z, 256, .inl (q7_closed r6))), (a0_faces, .inl (zI Z, 256, .inl (q7_faces r6))), (a0_rankOf, .inl (zI Z, 256, .inl (q7_rankOf r6))), (a0_placeOf, .inl (zI Z, 256, .inl (q7_placeOf r6)))]) rfl rfl (by decide) (by decide) (by decide) [(a0, .inr (7, [.int (q7_thrown r13.2), .ref a0_buffer, .int (q7_length o0), .int (q7_at o0), .int (q7_from o0), .int (q7_kind o0), .int (q7_number o0), .int (q7_wrong o0), .ref a0_now, .ref a0_made, .ref a0_history, .ref a0_saved, .int (q7_entries o0), .int (q7_isSaved o0), .ref a0_closed, .ref a0_faces, .ref a0_rankOf, .ref a0_placeOf, .int (q7_faceMany r6), .int (q7_isLaid r6), .ref a0_counted, .ref a0_steps, .ref a0_onto, .ref a0_goes, .int (q7_found o0), .int (q7_images o0), .ref a0_firstImage, .int (q7_gathered o0)])), (a0_now, .inl (zI Z, 12, .inl (q7_now o0))), (a0_made, .inl (zI Z, 12, .inl (q7_made o0))), (a0_history, .inl (zI Z, 96, .inl (q7_history o0))), (a0_closed, .inl (zI Z, 256, .inl (q7_closed r6))), (a0_faces, .inl (zI Z, 256, .inl (q7_faces r6))), (a0_rankOf, .inl (zI Z, 256, .inl (q7_rankOf r6))), (a0_placeOf, .inl (zI Z, 256, .inl (q7_placeOf r6)))] rfl (by decide) (Nat.le_of_ble_eq_true rfl) (by rw [hR]; exact Nat.le_of_ble_eq_true rfl) (by rw [hR]; exact Nat.le_of_ble_eq_true rfl) ⟨by rw [hR]; exact Nat.le_of_ble_eq_true rfl, by rw [hR]; exact Nat.le_of_ble_eq_true rfl⟩ rfl dX7_stack_82 ?_
      refine g_if_eq C 90 dX7_stack_85 (by decide) (fun c15 => ?_) (fun c15 => ?_)
      · replace h := it_t c15 h
        refine g_aload_n C dX7_stack_90 rfl 0 rfl ?_
        obtain ⟨r16, hr17, h⟩ := bd_of h
        refine g_callVv C (kX7_record l Z a0 a0_buffer a0_now a0_made a0_history a0_saved a0_closed a0_faces a0_rankOf a0_placeOf a0_counted a0_steps a0_onto a0_goes a0_firstImage (s7_isLaid (s7_faceMany (s7_placeOf (s7_rankOf (s7_faces (s7_closed (s7_thrown o0 (q7_thrown r13.2)) (q7_closed r6)) (q7_faces r6)) (q7_rankOf r6)) (q7_placeOf r6)) (q7_faceMany r6)) (q7_isLaid r6)) r16 hr17) 0 rfl (ci := 7) rfl rfl myX7_record 226 mw_6_84 rfl [0, 1, 3] [2, 4, 5, 6, 7] [5, 6, 0, 7, 1, 2, 3, 4] (wr := [(a0_made, .inl (zI Z, 12, .inl (q7_made o0))), (a0_closed, .inl (zI Z, 256, .inl (q7_closed r6))), (a0_faces, .inl (zI Z, 256, .inl (q7_faces r6))), (a0_rankOf, .inl (zI Z, 256, .inl (q7_rankOf r6))), (a0_placeOf, .inl (zI Z, 256, .inl (q7_placeOf r6)))]) rfl rfl (by decide) (by decide) (by decide) [(a0, .inr (7, [.int (q7_thrown r13.2), .ref a0_buffer, .int (q7_length o0), .int (q7_at o0), .int (q7_from o0), .int (q7_kind o0), .int (q7_number o0), .int (q7_wrong o0), .ref a0_now, .ref a0_made, .ref a0_history, .ref a0_saved, .int (q7_entries r16), .int (q7_isSaved o0), .ref a0_closed, .ref a0_faces, .ref a0_rankOf, .ref a0_placeOf, .int (q7_faceMany r6), .int (q7_isLaid r16), .ref a0_counted, .ref a0_steps, .ref a0_onto, .ref a0_goes, .int (q7_found o0), .int (q7_images o0), .ref a0_firstImage, .int (q7_gathered o0)])), (a0_now, .inl (zI Z, 12, .inl (q7_now o0))), (a0_made, .inl (zI Z, 12, .inl (q7_made o0))), (a0_history, .inl (zI Z, 96, .inl (q7_history r16))), (a0_closed, .inl (zI Z, 256, .inl (q7_closed r6))), (a0_faces, .inl (zI Z, 256, .inl (q7_faces r6))), (a0_rankOf, .inl (zI Z, 256, .inl (q7_rankOf r6))), (a0_placeOf, .inl (zI Z, 256, .inl (q7_placeOf r6)))] rfl (by decide) (Nat.le_of_ble_eq_true rfl) (by rw [hR]; exact Nat.le_of_ble_eq_true rfl) (by rw [hR]; exact Nat.le_of_ble_eq_true rfl) ⟨by rw [hR]; exact Nat.le_of_ble_eq_true rfl, by rw [hR]; exact Nat.le_of_ble_eq_true rfl⟩ rfl dX7_stack_91 ?_
        refine g_aload_n C dX7_stack_94 rfl 0 rfl ?_
        refine g_aload_n C dX7_stack_95 rfl 0 rfl ?_
        refine g_get C 7 13 gin7 0 rfl rfl 8 (by decide) mw_5_93 rfl rfl dX7_stack_96 ?_
        refine g_iconst C 0 dX7_stack_99 (by decide) ?_
        refine g_iald C 1 rfl (by decide) dX7_stack_100 ?_
        refine g_iconst C 1 dX7_stack_101 (by decide) ?_
        refine g_iadd C dX7_stack_102 ?_
        obtain ⟨r18, hr19, h⟩ := bd_of h
        refine g_callVv C (kX7_begin l Z a0 a0_buffer a0_now a0_made a0_history a0_saved a0_closed a0_faces a0_rankOf a0_placeOf a0_counted a0_steps a0_onto a0_goes a0_firstImage (s7_isLaid (s7_faceMany (s7_placeOf (s7_rankOf (s7_faces (s7_closed (s7_entries (s7_history (s7_thrown o0 (q7_thrown r13.2)) (q7_history r16)) (q7_entries r16)) (q7_closed r6)) (q7_faces r6)) (q7_rankOf r6)) (q7_placeOf r6)) (q7_faceMany r6)) (q7_isLaid r16)) (((q7_now o0) (ix 0)) + 1) r18 hr19) 0 rfl (ci := 7) rfl rfl myX7_begin 123 mw_6_5 rfl [0, 2] [1, 3, 4, 5, 6, 7] [6, 0, 7, 1, 2, 3, 4, 5] (wr := [(a0_now, .inl (zI Z, 12, .inl (q7_now o0))), (a0_history, .inl (zI Z, 96, .inl (q7_history r16))), (a0_closed, .inl (zI Z, 256, .inl (q7_closed r6))), (a0_faces, .inl (zI Z, 256, .inl (q7_faces r6))), (a0_rankOf, .inl (zI Z, 256, .inl (q7_rankOf r6))), (a0_placeOf, .inl (zI Z, 256, .inl (q7_placeOf r6)))]) rfl rfl (by decide) (by decide) (by decide) [(a0, .inr (7, [.int (q7_thrown r13.2), .ref a0_buffer, .int (q7_length o0), .int (q7_at o0), .int (q7_from o0), .int (q7_kind o0), .int (q7_number o0), .int (q7_wrong o0), .ref a0_now, .ref a0_made, .ref a0_history, .ref a0_saved, .int (q7_entries r16), .int (q7_isSaved o0), .ref a0_closed, .ref a0_faces, .ref a0_rankOf, .ref a0_placeOf, .int (q7_faceMany r6), .int (q7_isLaid r16), .ref a0_counted, .ref a0_steps, .ref a0_onto, .ref a0_goes, .int (q7_found o0), .int (q7_images o0), .ref a0_firstImage, .int (q7_gathered o0)])), (a0_now, .inl (zI Z, 12, .inl (q7_now o0))), (a0_made, .inl (zI Z, 12, .inl (q7_made r18))), (a0_history, .inl (zI Z, 96, .inl (q7_history r16))), (a0_closed, .inl (zI Z, 256, .inl (q7_closed r6))), (a0_faces, .inl (zI Z, 256, .inl (q7_faces r6))), (a0_rankOf, .inl (zI Z, 256, .inl (q7_rankOf r6))), (a0_placeOf, .inl (zI Z, 256, .inl (q7_placeOf r6)))] rfl (by decide) (Nat.le_of_ble_eq_true rfl) (by rw [hR]; exact Nat.le_of_ble_eq_true rfl) (by rw [hR]; exact Nat.le_of_ble_eq_true rfl) ⟨by rw [hR]; exact Nat.le_of_ble_eq_true rfl, by rw [hR]; exact Nat.le_of_ble_eq_true rfl⟩ rfl dX7_stack_103 ?_
        refine g_iconst C 0 dX7_stack_106 (by decide) ?_
        refine g_istore C dX7_stack_107 (by decide) [(4, .int 0), (0, .ref a0), (1, .int p1), (2, .int ((q7_placeOf r6) (ix ((q7_now o0) (ix (2 + p1))))))] rfl ?_
        refine g_lv [1, 2, 3, 0] [(0, .ref a0), (1, .int p1), (2, .int ((q7_placeOf r6) (ix ((q7_now o0) (ix (2 + p1)))))), (4, .int 0)] rfl ?_
        refine g_loop (lvf := fun v20 => [(0, .ref a0), (1, .int p1), (2, .int ((q7_placeOf r6) (ix ((q7_now o0) (ix (2 + p1)))))), (4, .int v20.1)]) (wsf := fun v20 => [(a0, .inr (7, [.int (q7_thrown r13.2), .ref a0_buffer, .int (q7_length o0), .int (q7_at o0), .int (q7_from o0), .int (q7_kind o0), .int (q7_number o0), .int (q7_wrong o0), .ref a0_now, .ref a0_made, .ref a0_history, .ref a0_saved, .int (q7_entries r16), .int (q7_isSaved o0), .ref a0_closed, .ref a0_faces, .ref a0_rankOf, .ref a0_placeOf, .int (q7_faceMany r6), .int (q7_isLaid r16), .ref a0_counted, .ref a0_steps, .ref a0_onto, .ref a0_goes, .int (q7_found o0), .int (q7_images o0), .ref a0_firstImage, .int (q7_gathered o0)])), (a0_now, .inl (zI Z, 12, .inl (q7_now o0))), (a0_made, .inl (zI Z, 12, .inl v20.2)), (a0_history, .inl (zI Z, 96, .inl (q7_history r16))), (a0_closed, .inl (zI Z, 256, .inl (q7_closed r6))), (a0_faces, .inl (zI Z, 256, .inl (q7_faces r6))), (a0_rankOf, .inl (zI Z, 256, .inl (q7_rankOf r6))), (a0_placeOf, .inl (zI Z, 256, .inl (q7_placeOf r6)))]) h (fun v20 y1 h hk1 hx1 => ?_)
        refine g_eq (lv1 := [(0, .ref a0), (1, .int p1), (2, .int ((q7_placeOf r6) (ix ((q7_now o0) (ix (2 + p1)))))), (4, .int v20.1)]) (st1 := []) (ws1 := [(a0, .inr (7, [.int (q7_thrown r13.2), .ref a0_buffer, .int (q7_length o0), .int (q7_at o0), .int (q7_from o0), .int (q7_kind o0), .int (q7_number o0), .int (q7_wrong o0), .ref a0_now, .ref a0_made, .ref a0_history, .ref a0_saved, .int (q7_entries r16), .int (q7_isSaved o0), .ref a0_closed, .ref a0_faces, .ref a0_rankOf, .ref a0_placeOf, .int (q7_faceMany r6), .int (q7_isLaid r16), .ref a0_counted, .ref a0_steps, .ref a0_onto, .ref a0_goes, .int (q7_found o0), .int (q7_images o0), .ref a0_firstImage, .int (q7_gathered o0)])), (a0_now, .inl (zI Z, 12, .inl (q7_now o0))), (a0_made, .inl (zI Z, 12, .inl v20.2)), (a0_history, .inl (zI Z, 96, .inl (q7_history r16))), (a0_closed, .inl (zI Z, 256, .inl (q7_closed r6))), (a0_faces, .inl (zI Z, 256, .inl (q7_faces r6))), (a0_rankOf, .inl (zI Z, 256, .inl (q7_rankOf r6))), (a0_placeOf, .inl (zI Z, 256, .inl (q7_placeOf r6)))]) rfl rfl rfl rfl ?_
        unfold fX7_stack_L109 at h
        refine g_iload C dX7_stack_109 3 rfl ?_
        refine g_aload_n C dX7_stack_111 rfl 0 rfl ?_
        refine g_get C 7 13 gin7 0 rfl rfl 8 (by decide) mw_5_93 rfl rfl dX7_stack_112 ?_
        refine g_iconst C 1 dX7_stack_115 (by decide) ?_
        refine g_iald C 1 rfl (by decide) dX7_stack_116 ?_
        refine g_icmp_ge C 145 dX7_stack_117 (by decide) (fun c21 => ?_) (fun c21 => ?_)
        · replace h := it_t c21 h
          obtain ⟨r22, h, hy⟩ := ex_of h
          rw [hx1 r22 hy] at h
          refine g_iconst C 0 dX7_stack_145 (by decide) ?_
          refine g_istore C dX7_stack_146 (by decide) [(4, .int 0), (0, .ref a0), (1, .int p1), (2, .int ((q7_placeOf r6) (ix ((q7_now o0) (ix (2 + p1))))))] rfl ?_
          refine g_lv [1, 3, 0] [(0, .ref a0), (2, .int ((q7_placeOf r6) (ix ((q7_now o0) (ix (2 + p1)))))), (4, .int 0)] rfl ?_
          refine g_loop (lvf := fun v23 => [(0, .ref a0), (2, .int ((q7_placeOf r6) (ix ((q7_now o0) (ix (2 + p1)))))), (4, .int v23.1)]) (wsf := fun v23 => [(a0, .inr (7, [.int (q7_thrown r13.2), .ref a0_buffer, .int (q7_length o0), .int (q7_at o0), .int (q7_from o0), .int (q7_kind o0), .int (q7_number o0), .int (q7_wrong o0), .ref a0_now, .ref a0_made, .ref a0_history, .ref a0_saved, .int (q7_entries r16), .int (q7_isSaved o0), .ref a0_closed, .ref a0_faces, .ref a0_rankOf, .ref a0_placeOf, .int (q7_faceMany r6), .int (q7_isLaid r16), .ref a0_counted, .ref a0_steps, .ref a0_onto, .ref a0_goes, .int (q7_found o0), .int (q7_images o0), .ref a0_firstImage, .int (q7_gathered o0)])), (a0_now, .inl (zI Z, 12, .inl (q7_now o0))), (a0_made, .inl (zI Z, 12, .inl v23.2)), (a0_history, .inl (zI Z, 96, .inl (q7_history r16))), (a0_closed, .inl (zI Z, 256, .inl (q7_closed r6))), (a0_faces, .inl (zI Z, 256, .inl (q7_faces r6))), (a0_rankOf, .inl (zI Z, 256, .inl (q7_rankOf r6))), (a0_placeOf, .inl (zI Z, 256, .inl (q7_placeOf r6)))]) h (fun v23 y1 h hk1 hx1 => ?_)
          refine g_eq (lv1 := [(0, .ref a0), (2, .int ((q7_placeOf r6) (ix ((q7_now o0) (ix (2 + p1)))))), (4, .int v23.1)]) (st1 := []) (ws1 := [(a0, .inr (7, [.int (q7_thrown r13.2), .ref a0_buffer, .int (q7_length o0), .int (q7_at o0), .int (q7_from o0), .int (q7_kind o0), .int (q7_number o0), .int (q7_wrong o0), .ref a0_now, .ref a0_made, .ref a0_history, .ref a0_saved, .int (q7_entries r16), .int (q7_isSaved o0), .ref a0_closed, .ref a0_faces, .ref a0_rankOf, .ref a0_placeOf, .int (q7_faceMany r6), .int (q7_isLaid r16), .ref a0_counted, .ref a0_steps, .ref a0_onto, .ref a0_goes, .int (q7_found o0), .int (q7_images o0), .ref a0_firstImage, .int (q7_gathered o0)])), (a0_now, .inl (zI Z, 12, .inl (q7_now o0))), (a0_made, .inl (zI Z, 12, .inl v23.2)), (a0_history, .inl (zI Z, 96, .inl (q7_history r16))), (a0_closed, .inl (zI Z, 256, .inl (q7_closed r6))), (a0_faces, .inl (zI Z, 256, .inl (q7_faces r6))), (a0_rankOf, .inl (zI Z, 256, .inl (q7_rankOf r6))), (a0_placeOf, .inl (zI Z, 256, .inl (q7_placeOf r6)))]) rfl rfl rfl rfl ?_
          unfold fX7_stack_L148 at h
          refine g_iload C dX7_stack_148 2 rfl ?_
          refine g_aload_n C dX7_stack_150 rfl 0 rfl ?_
          refine g_get C 7 214 gin7 0 rfl rfl 18 (by decide) mw_5_103 rfl rfl dX7_stack_151 ?_
          refine g_icmp_ge C 193 dX7_stack_154 (by decide) (fun c24 => ?_) (fun c24 => ?_)
          · replace h := it_t c24 h
            obtain ⟨r25, h, hy⟩ := ex_of h
            rw [hx1 r25 hy] at h
            refine g_aload_n C dX7_stack_193 rfl 0 rfl ?_
            obtain ⟨r26, hr27, h⟩ := bd_of h
            refine g_callVv C (kX7_takeMade l Z a0 a0_buffer a0_now a0_made a0_history a0_saved a0_closed a0_faces a0_rankOf a0_placeOf a0_counted a0_steps a0_onto a0_goes a0_firstImage (s7_isLaid (s7_faceMany (s7_placeOf (s7_rankOf (s7_faces (s7_closed (s7_entries (s7_history (s7_made (s7_thrown o0 (q7_thrown r13.2)) v23.2) (q7_history r16)) (q7_entries r16)) (q7_closed r6)) (q7_faces r6)) (q7_rankOf r6)) (q7_placeOf r6)) (q7_faceMany r6)) (q7_isLaid r16)) r26 hr27) 0 rfl (ci := 7) rfl rfl myX7_takeMade 187 mw_6_52 rfl [0, 1, 2] [3, 4, 5, 6, 7] [5, 6, 7, 0, 1, 2, 3, 4] (wr := [(a0_history, .inl (zI Z, 96, .inl (q7_history r16))), (a0_closed, .inl (zI Z, 256, .inl (q7_closed r6))), (a0_faces, .inl (zI Z, 256, .inl (q7_faces r6))), (a0_rankOf, .inl (zI Z, 256, .inl (q7_rankOf r6))), (a0_placeOf, .inl (zI Z, 256, .inl (q7_placeOf r6)))]) rfl rfl (by decide) (by decide) (by decide) [(a0, .inr (7, [.int (q7_thrown r13.2), .ref a0_buffer, .int (q7_length o0), .int (q7_at o0), .int (q7_from o0), .int (q7_kind o0), .int (q7_number o0), .int (q7_wrong o0), .ref a0_now, .ref a0_made, .ref a0_history, .ref a0_saved, .int (q7_entries r16), .int (q7_isSaved o0), .ref a0_closed, .ref a0_faces, .ref a0_rankOf, .ref a0_placeOf, .int (q7_faceMany r6), .int (q7_isLaid r26), .ref a0_counted, .ref a0_steps, .ref a0_onto, .ref a0_goes, .int (q7_found o0), .int (q7_images o0), .ref a0_firstImage, .int (q7_gathered o0)])), (a0_now, .inl (zI Z, 12, .inl (q7_now r26))), (a0_made, .inl (zI Z, 12, .inl v23.2)), (a0_history, .inl (zI Z, 96, .inl (q7_history r16))), (a0_closed, .inl (zI Z, 256, .inl (q7_closed r6))), (a0_faces, .inl (zI Z, 256, .inl (q7_faces r6))), (a0_rankOf, .inl (zI Z, 256, .inl (q7_rankOf r6))), (a0_placeOf, .inl (zI Z, 256, .inl (q7_placeOf r6)))] rfl (by decide) (Nat.le_of_ble_eq_true rfl) (by rw [hR]; exact Nat.le_of_ble_eq_true rfl) (by rw [hR]; exact Nat.le_of_ble_eq_true rfl) ⟨by rw [hR]; exact Nat.le_of_ble_eq_true rfl, by rw [hR]; exact Nat.le_of_ble_eq_true rfl⟩ rfl dX7_stack_194 ?_
            refine g_aload_n C dX7_stack_197 rfl 0 rfl ?_
            refine g_get C 7 13 gin7 0 rfl rfl 8 (by decide) mw_5_93 rfl rfl dX7_stack_198 ?_
            refine g_iconst C 1 dX7_stack_201 (by decide) ?_
            refine g_iald C 1 rfl (by decide) dX7_stack_202 ?_
            obtain rfl := Option.some.inj h
            subst hQ
            exact g_iret C rfl hr hlk dX7_stack_203 [0, 1, 2, 3, 4, 5, 6, 7] rfl (by decide)
          · replace h := it_f c24 h
            refine g_aload_n C dX7_stack_157 rfl 0 rfl ?_
            refine g_iload_n C dX7_stack_158 rfl 1 rfl ?_
            refine g_iload C dX7_stack_159 2 rfl ?_
            obtain ⟨r28, hr29, h⟩ := bd_of h
            refine g_callVi C (kX7_covers l Z a0 a0_buffer a0_now a0_made a0_history a0_saved a0_closed a0_faces a0_rankOf a0_placeOf a0_counted a0_steps a0_onto a0_goes a0_firstImage (s7_isLaid (s7_faceMany (s7_placeOf (s7_rankOf (s7_faces (s7_closed (s7_entries (s7_history (s7_made (s7_thrown o0 (q7_thrown r13.2)) v23.2) (q7_history r16)) (q7_entries r16)) (q7_closed r6)) (q7_faces r6)) (q7_rankOf r6)) (q7_placeOf r6)) (q7_faceMany r6)) (q7_isLaid r16)) ((q7_placeOf r6) (ix ((q7_now o0) (ix (2 + p1))))) v23.1 r28 hr29) 0 rfl (ci := 7) rfl rfl myX7_covers 241 mw_6_152 rfl [0, 4, 5] [1, 2, 3, 6, 7] [5, 0, 1, 2, 6, 7, 3, 4] (wr := [(a0_now, .inl (zI Z, 12, .inl (q7_now o0))), (a0_made, .inl (zI Z, 12, .inl v23.2)), (a0_history, .inl (zI Z, 96, .inl (q7_history r16))), (a0_rankOf, .inl (zI Z, 256, .inl (q7_rankOf r6))), (a0_placeOf, .inl (zI Z, 256, .inl (q7_placeOf r6)))]) rfl rfl (by decide) (by decide) (by decide) [(a0, .inr (7, [.int (q7_thrown r13.2), .ref a0_buffer, .int (q7_length o0), .int (q7_at o0), .int (q7_from o0), .int (q7_kind o0), .int (q7_number o0), .int (q7_wrong o0), .ref a0_now, .ref a0_made, .ref a0_history, .ref a0_saved, .int (q7_entries r16), .int (q7_isSaved o0), .ref a0_closed, .ref a0_faces, .ref a0_rankOf, .ref a0_placeOf, .int (q7_faceMany r6), .int (q7_isLaid r16), .ref a0_counted, .ref a0_steps, .ref a0_onto, .ref a0_goes, .int (q7_found o0), .int (q7_images o0), .ref a0_firstImage, .int (q7_gathered o0)])), (a0_now, .inl (zI Z, 12, .inl (q7_now o0))), (a0_made, .inl (zI Z, 12, .inl v23.2)), (a0_history, .inl (zI Z, 96, .inl (q7_history r16))), (a0_closed, .inl (zI Z, 256, .inl (q7_closed r6))), (a0_faces, .inl (zI Z, 256, .inl (q7_faces r6))), (a0_rankOf, .inl (zI Z, 256, .inl (q7_rankOf r6))), (a0_placeOf, .inl (zI Z, 256, .inl (q7_placeOf r6)))] rfl (by decide) (Nat.le_of_ble_eq_true rfl) (by rw [hR]; exact Nat.le_of_ble_eq_true rfl) (by rw [hR]; exact Nat.le_of_ble_eq_true rfl) ⟨by rw [hR]; exact Nat.le_of_ble_eq_true rfl, by rw [hR]; exact Nat.le_of_ble_eq_true rfl⟩ rfl dX7_stack_161 ?_
            refine g_if_eq C 187 dX7_stack_164 (by decide) (fun c30 => ?_) (fun c30 => ?_)
            · replace h := it_t c30 h
              refine g_iinc C (v23.1 + 1) dX7_stack_187 2 rfl rfl (by decide) [(4, .int (v23.1 + 1)), (0, .ref a0), (2, .int ((q7_placeOf r6) (ix ((q7_now o0) (ix (2 + p1))))))] rfl ?_
              refine g_goto C 148 dX7_stack_190 (by decide) ?_
              refine g_lv [1, 2, 0] [(0, .ref a0), (2, .int ((q7_placeOf r6) (ix ((q7_now o0) (ix (2 + p1)))))), (4, .int (v23.1 + 1))] rfl ?_
              exact hk1 ((v23.1 + 1), v23.2) (Option.some.inj h).symm
            · replace h := it_f c30 h
              refine g_aload_n C dX7_stack_167 rfl 0 rfl ?_
              refine g_aload_n C dX7_stack_168 rfl 0 rfl ?_
              refine g_get C 7 28 gin7 0 rfl rfl 15 (by decide) mw_5_100 rfl rfl dX7_stack_169 ?_
              refine g_iload C dX7_stack_172 2 rfl ?_
              obtain ⟨hi31, h⟩ := ck_of h
              refine g_iald C 5 rfl hi31 dX7_stack_174 ?_
              refine g_iconst C 1 dX7_stack_175 (by decide) ?_
              refine g_aload_n C dX7_stack_176 rfl 0 rfl ?_
              refine g_get C 7 13 gin7 0 rfl rfl 8 (by decide) mw_5_93 rfl rfl dX7_stack_177 ?_
              refine g_iconst C 0 dX7_stack_180 (by decide) ?_
              refine g_iald C 1 rfl (by decide) dX7_stack_181 ?_
              refine g_ishl C dX7_stack_182 ?_
              refine g_ior C dX7_stack_183 ?_
              obtain ⟨r32, hr33, h⟩ := bd_of h
              refine g_callVv C (kX7_add l Z a0 a0_buffer a0_now a0_made a0_history a0_saved a0_closed a0_faces a0_rankOf a0_placeOf a0_counted a0_steps a0_onto a0_goes a0_firstImage (s7_isLaid (s7_faceMany (s7_placeOf (s7_rankOf (s7_faces (s7_closed (s7_entries (s7_history (s7_made (s7_thrown o0 (q7_thrown r13.2)) v23.2) (q7_history r16)) (q7_entries r16)) (q7_closed r6)) (q7_faces r6)) (q7_rankOf r6)) (q7_placeOf r6)) (q7_faceMany r6)) (q7_isLaid r16)) (((q7_faces r6) (ix v23.1)) ||| (jshl 1 ((q7_now o0) (ix 0)))) r32 hr33) 0 rfl (ci := 7) rfl rfl myX7_add 130 mw_6_17 rfl [0, 2] [1, 3, 4, 5, 6, 7] [6, 0, 7, 1, 2, 3, 4, 5] (wr := [(a0_now, .inl (zI Z, 12, .inl (q7_now o0))), (a0_history, .inl (zI Z, 96, .inl (q7_history r16))), (a0_closed, .inl (zI Z, 256, .inl (q7_closed r6))), (a0_faces, .inl (zI Z, 256, .inl (q7_faces r6))), (a0_rankOf, .inl (zI Z, 256, .inl (q7_rankOf r6))), (a0_placeOf, .inl (zI Z, 256, .inl (q7_placeOf r6)))]) rfl rfl (by decide) (by decide) (by decide) [(a0, .inr (7, [.int (q7_thrown r13.2), .ref a0_buffer, .int (q7_length o0), .int (q7_at o0), .int (q7_from o0), .int (q7_kind o0), .int (q7_number o0), .int (q7_wrong o0), .ref a0_now, .ref a0_made, .ref a0_history, .ref a0_saved, .int (q7_entries r16), .int (q7_isSaved o0), .ref a0_closed, .ref a0_faces, .ref a0_rankOf, .ref a0_placeOf, .int (q7_faceMany r6), .int (q7_isLaid r16), .ref a0_counted, .ref a0_steps, .ref a0_onto, .ref a0_goes, .int (q7_found o0), .int (q7_images o0), .ref a0_firstImage, .int (q7_gathered o0)])), (a0_now, .inl (zI Z, 12, .inl (q7_now o0))), (a0_made, .inl (zI Z, 12, .inl (q7_made r32))), (a0_history, .inl (zI Z, 96, .inl (q7_history r16))), (a0_closed, .inl (zI Z, 256, .inl (q7_closed r6))), (a0_faces, .inl (zI Z, 256, .inl (q7_faces r6))), (a0_rankOf, .inl (zI Z, 256, .inl (q7_rankOf r6))), (a0_placeOf, .inl (zI Z, 256, .inl (q7_placeOf r6)))] rfl (by decide) (Nat.le_of_ble_eq_true rfl) (by rw [hR]; exact Nat.le_of_ble_eq_true rfl) (by rw [hR]; exact Nat.le_of_ble_eq_true rfl) ⟨by rw [hR]; exact Nat.le_of_ble_eq_true rfl, by rw [hR]; exact Nat.le_of_ble_eq_true rfl⟩ rfl dX7_stack_184 ?_
              refine g_iinc C (v23.1 + 1) dX7_stack_187 2 rfl rfl (by decide) [(4, .int (v23.1 + 1)), (0, .ref a0), (2, .int ((q7_placeOf r6) (ix ((q7_now o0) (ix (2 + p1))))))] rfl ?_
              refine g_goto C 148 dX7_stack_190 (by decide) ?_
              refine g_lv [1, 2, 0] [(0, .ref a0), (2, .int ((q7_placeOf r6) (ix ((q7_now o0) (ix (2 + p1)))))), (4, .int (v23.1 + 1))] rfl ?_
              exact hk1 ((v23.1 + 1), (q7_made r32)) (Option.some.inj h).symm
        · replace h := it_f c21 h
          refine g_iload C dX7_stack_120 3 rfl ?_
          refine g_iload_n C dX7_stack_122 rfl 1 rfl ?_
          refine g_icmp_eq C 139 dX7_stack_123 (by decide) (fun c34 => ?_) (fun c34 => ?_)
          · replace h := it_t c34 h
            refine g_iinc C (v20.1 + 1) dX7_stack_139 3 rfl rfl (by decide) [(4, .int (v20.1 + 1)), (0, .ref a0), (1, .int p1), (2, .int ((q7_placeOf r6) (ix ((q7_now o0) (ix (2 + p1))))))] rfl ?_
            refine g_goto C 109 dX7_stack_142 (by decide) ?_
            refine g_lv [1, 2, 3, 0] [(0, .ref a0), (1, .int p1), (2, .int ((q7_placeOf r6) (ix ((q7_now o0) (ix (2 + p1)))))), (4, .int (v20.1 + 1))] rfl ?_
            exact hk1 ((v20.1 + 1), v20.2) (Option.some.inj h).symm
          · replace h := it_f c34 h
            refine g_aload_n C dX7_stack_126 rfl 0 rfl ?_
            refine g_aload_n C dX7_stack_127 rfl 0 rfl ?_
            refine g_get C 7 13 gin7 0 rfl rfl 8 (by decide) mw_5_93 rfl rfl dX7_stack_128 ?_
            refine g_iconst C 2 dX7_stack_131 (by decide) ?_
            refine g_iload C dX7_stack_132 3 rfl ?_
            refine g_iadd C dX7_stack_134 ?_
            obtain ⟨hi35, h⟩ := ck_of h
            refine g_iald C 1 rfl hi35 dX7_stack_135 ?_
            obtain ⟨r36, hr37, h⟩ := bd_of h
            refine g_callVv C (kX7_add l Z a0 a0_buffer a0_now a0_made a0_history a0_saved a0_closed a0_faces a0_rankOf a0_placeOf a0_counted a0_steps a0_onto a0_goes a0_firstImage (s7_isLaid (s7_faceMany (s7_placeOf (s7_rankOf (s7_faces (s7_closed (s7_entries (s7_history (s7_made (s7_thrown o0 (q7_thrown r13.2)) v20.2) (q7_history r16)) (q7_entries r16)) (q7_closed r6)) (q7_faces r6)) (q7_rankOf r6)) (q7_placeOf r6)) (q7_faceMany r6)) (q7_isLaid r16)) ((q7_now o0) (ix (2 + v20.1))) r36 hr37) 0 rfl (ci := 7) rfl rfl myX7_add 130 mw_6_17 rfl [0, 2] [1, 3, 4, 5, 6, 7] [6, 0, 7, 1, 2, 3, 4, 5] (wr := [(a0_now, .inl (zI Z, 12, .inl (q7_now o0))), (a0_history, .inl (zI Z, 96, .inl (q7_history r16))), (a0_closed, .inl (zI Z, 256, .inl (q7_closed r6))), (a0_faces, .inl (zI Z, 256, .inl (q7_faces r6))), (a0_rankOf, .inl (zI Z, 256, .inl (q7_rankOf r6))), (a0_placeOf, .inl (zI Z, 256, .inl (q7_placeOf r6)))]) rfl rfl (by decide) (by decide) (by decide) [(a0, .inr (7, [.int (q7_thrown r13.2), .ref a0_buffer, .int (q7_length o0), .int (q7_at o0), .int (q7_from o0), .int (q7_kind o0), .int (q7_number o0), .int (q7_wrong o0), .ref a0_now, .ref a0_made, .ref a0_history, .ref a0_saved, .int (q7_entries r16), .int (q7_isSaved o0), .ref a0_closed, .ref a0_faces, .ref a0_rankOf, .ref a0_placeOf, .int (q7_faceMany r6), .int (q7_isLaid r16), .ref a0_counted, .ref a0_steps, .ref a0_onto, .ref a0_goes, .int (q7_found o0), .int (q7_images o0), .ref a0_firstImage, .int (q7_gathered o0)])), (a0_now, .inl (zI Z, 12, .inl (q7_now o0))), (a0_made, .inl (zI Z, 12, .inl (q7_made r36))), (a0_history, .inl (zI Z, 96, .inl (q7_history r16))), (a0_closed, .inl (zI Z, 256, .inl (q7_closed r6))), (a0_faces, .inl (zI Z, 256, .inl (q7_faces r6))), (a0_rankOf, .inl (zI Z, 256, .inl (q7_rankOf r6))), (a0_placeOf, .inl (zI Z, 256, .inl (q7_placeOf r6)))] rfl (by decide) (Nat.le_of_ble_eq_true rfl) (by rw [hR]; exact Nat.le_of_ble_eq_true rfl) (by rw [hR]; exact Nat.le_of_ble_eq_true rfl) ⟨by rw [hR]; exact Nat.le_of_ble_eq_true rfl, by rw [hR]; exact Nat.le_of_ble_eq_true rfl⟩ rfl dX7_stack_136 ?_
            refine g_iinc C (v20.1 + 1) dX7_stack_139 3 rfl rfl (by decide) [(4, .int (v20.1 + 1)), (0, .ref a0), (1, .int p1), (2, .int ((q7_placeOf r6) (ix ((q7_now o0) (ix (2 + p1))))))] rfl ?_
            refine g_goto C 109 dX7_stack_142 (by decide) ?_
            refine g_lv [1, 2, 3, 0] [(0, .ref a0), (1, .int p1), (2, .int ((q7_placeOf r6) (ix ((q7_now o0) (ix (2 + p1)))))), (4, .int (v20.1 + 1))] rfl ?_
            exact hk1 ((v20.1 + 1), (q7_made r36)) (Option.some.inj h).symm
      · replace h := it_f c15 h
        refine g_iconst C 0 dX7_stack_88 (by decide) ?_
        obtain rfl := Option.some.inj h
        subst hQ
        exact g_iret C rfl hr hlk dX7_stack_89 [0, 1, 2, 3, 4, 5, 6, 7] rfl (by decide)
    have hj80 : fX7_stack_J80 o0 p1 r3 r6 = some res → Gw p l e R s m args below meth c 5 Z A Q 0 0 80 [(0, .ref a0), (1, .int p1), (2, .int ((q7_placeOf r6) (ix ((q7_now o0) (ix (2 + p1))))))] [.ref a0] [(a0, .inr (7, [.int (q7_thrown r3.2), .ref a0_buffer, .int (q7_length o0), .int (q7_at o0), .int (q7_from o0), .int (q7_kind o0), .int (q7_number o0), .int (q7_wrong o0), .ref a0_now, .ref a0_made, .ref a0_history, .ref a0_saved, .int (q7_entries o0), .int (q7_isSaved o0), .ref a0_closed, .ref a0_faces, .ref a0_rankOf, .ref a0_placeOf, .int (q7_faceMany r6), .int (q7_isLaid r6), .ref a0_counted, .ref a0_steps, .ref a0_onto, .ref a0_goes, .int (q7_found o0), .int (q7_images o0), .ref a0_firstImage, .int (q7_gathered o0)])), (a0_now, .inl (zI Z, 12, .inl (q7_now o0))), (a0_made, .inl (zI Z, 12, .inl (q7_made o0))), (a0_history, .inl (zI Z, 96, .inl (q7_history o0))), (a0_closed, .inl (zI Z, 256, .inl (q7_closed r6))), (a0_faces, .inl (zI Z, 256, .inl (q7_faces r6))), (a0_rankOf, .inl (zI Z, 256, .inl (q7_rankOf r6))), (a0_placeOf, .inl (zI Z, 256, .inl (q7_placeOf r6)))] := by
      intro h
      unfold fX7_stack_J80 at h
      refine g_iconst C 0 dX7_stack_80 (by decide) ?_
      exact hj81 0 h
    refine g_if_le C 80 dX7_stack_47 (by decide) (fun c38 => ?_) (fun c38 => ?_)
    · replace h := it_t c38 h
      refine g_lv [2, 3, 1] [(0, .ref a0), (1, .int p1), (2, .int ((q7_placeOf r6) (ix ((q7_now o0) (ix (2 + p1))))))] rfl ?_
      exact hj80 h
    · replace h := it_f c38 h
      refine g_aload_n C dX7_stack_50 rfl 2 rfl ?_
      refine g_get C 7 13 gin7 0 rfl rfl 8 (by decide) mw_5_93 rfl rfl dX7_stack_51 ?_
      refine g_iconst C 0 dX7_stack_54 (by decide) ?_
      refine g_iald C 1 rfl (by decide) dX7_stack_55 ?_
      refine g_bipush C 8 dX7_stack_56 (by decide) ?_
      refine g_icmp_ge C 80 dX7_stack_58 (by decide) (fun c39 => ?_) (fun c39 => ?_)
      · replace h := it_t c39 h
        refine g_lv [2, 3, 1] [(0, .ref a0), (1, .int p1), (2, .int ((q7_placeOf r6) (ix ((q7_now o0) (ix (2 + p1))))))] rfl ?_
        exact hj80 h
      · replace h := it_f c39 h
        refine g_aload_n C dX7_stack_61 rfl 2 rfl ?_
        refine g_get C 7 13 gin7 0 rfl rfl 8 (by decide) mw_5_93 rfl rfl dX7_stack_62 ?_
        refine g_iconst C 1 dX7_stack_65 (by decide) ?_
        refine g_iald C 1 rfl (by decide) dX7_stack_66 ?_
        refine g_iconst C 1 dX7_stack_67 (by decide) ?_
        refine g_isub C dX7_stack_68 ?_
        refine g_iload_n C dX7_stack_69 rfl 0 rfl ?_
        refine g_iadd C dX7_stack_70 ?_
        refine g_bipush C 10 dX7_stack_71 (by decide) ?_
        refine g_icmp_gt C 80 dX7_stack_73 (by decide) (fun c40 => ?_) (fun c40 => ?_)
        · replace h := it_t c40 h
          refine g_lv [2, 3, 1] [(0, .ref a0), (1, .int p1), (2, .int ((q7_placeOf r6) (ix ((q7_now o0) (ix (2 + p1))))))] rfl ?_
          exact hj80 h
        · replace h := it_f c40 h
          refine g_iconst C 1 dX7_stack_76 (by decide) ?_
          refine g_goto C 81 dX7_stack_77 (by decide) ?_
          refine g_lv [2, 3, 1] [(0, .ref a0), (1, .int p1), (2, .int ((q7_placeOf r6) (ix ((q7_now o0) (ix (2 + p1))))))] rfl ?_
          exact hj81 1 h
  · replace h := it_f c5 h
    refine g_iconst C 0 dX7_stack_18 (by decide) ?_
    obtain rfl := Option.some.inj h
    subst hQ
    exact g_iret C rfl hr hlk dX7_stack_19 [0, 1, 2, 3, 4, 5, 6, 7] rfl (by decide)
def fX7_pointNeighbours_L8 (o0 : OX7) (p1 : Int32) (r1 : OX7) (v3 : Int32 × Int32) : Option ((Int32 × Int32) ⊕ (Int32 × OX7)) :=
  if ((q7_now o0) (ix 0)) ≤ v3.2 then (ex (some (v3.1, (s7_isLaid (s7_faceMany (s7_placeOf (s7_rankOf (s7_faces (s7_closed o0 (q7_closed r1)) (q7_faces r1)) (q7_rankOf r1)) (q7_placeOf r1)) (q7_faceMany r1)) (q7_isLaid r1)))))
  else (if v3.2 = p1 then (some (.inl ((v3.1 ||| 0), (v3.2 + 1))))
  else (ck (okI ((jshl 1 p1) ||| (jshl 1 v3.2)) 256) (if ((q7_closed r1) (ix ((jshl 1 p1) ||| (jshl 1 v3.2)))) = ((jshl 1 p1) ||| (jshl 1 v3.2)) then (some (.inl ((v3.1 ||| (jshl 1 v3.2)), (v3.2 + 1))))
  else (some (.inl ((v3.1 ||| 0), (v3.2 + 1)))))))
def fX7_pointNeighbours (o0 : OX7) (p1 : Int32) : Option (Int32 × OX7) :=
  (fX7_lay o0).bind fun r1 =>
  (lp (fX7_pointNeighbours_L8 o0 p1 r1) lpN (0, 0))
theorem myX7_pointNeighbours : MYv yX7_pointNeighbours cX7_pointNeighbours 4 (some .int) 1 := ⟨mw_6_162, ms_66, mw_6_163, mw_1_9, ⟨by decide +kernel, by decide +kernel⟩, by decide +kernel⟩
set_option maxRecDepth 100000 in
set_option maxHeartbeats 4000000 in
theorem kX7_pointNeighbours (l : Launch) (Z : GZ) (a0 a0_buffer a0_now a0_made a0_history a0_saved a0_closed a0_faces a0_rankOf a0_placeOf a0_counted a0_steps a0_onto a0_goes a0_firstImage : Nat) (o0 : OX7) (p1 : Int32) (res : Int32 × OX7) (h : fX7_pointNeighbours o0 p1 = some res) : MI l Z yX7_pointNeighbours cX7_pointNeighbours 4 .int 4 89 [.ref a0, .int p1] [(a0, .inr (7, [.int (q7_thrown o0), .ref a0_buffer, .int (q7_length o0), .int (q7_at o0), .int (q7_from o0), .int (q7_kind o0), .int (q7_number o0), .int (q7_wrong o0), .ref a0_now, .ref a0_made, .ref a0_history, .ref a0_saved, .int (q7_entries o0), .int (q7_isSaved o0), .ref a0_closed, .ref a0_faces, .ref a0_rankOf, .ref a0_placeOf, .int (q7_faceMany o0), .int (q7_isLaid o0), .ref a0_counted, .ref a0_steps, .ref a0_onto, .ref a0_goes, .int (q7_found o0), .int (q7_images o0), .ref a0_firstImage, .int (q7_gathered o0)])), (a0_now, .inl (zI Z, 12, .inl (q7_now o0))), (a0_closed, .inl (zI Z, 256, .inl (q7_closed o0))), (a0_faces, .inl (zI Z, 256, .inl (q7_faces o0))), (a0_rankOf, .inl (zI Z, 256, .inl (q7_rankOf o0))), (a0_placeOf, .inl (zI Z, 256, .inl (q7_placeOf o0)))] res.1 [(a0, .inr (7, [.int (q7_thrown o0), .ref a0_buffer, .int (q7_length o0), .int (q7_at o0), .int (q7_from o0), .int (q7_kind o0), .int (q7_number o0), .int (q7_wrong o0), .ref a0_now, .ref a0_made, .ref a0_history, .ref a0_saved, .int (q7_entries o0), .int (q7_isSaved o0), .ref a0_closed, .ref a0_faces, .ref a0_rankOf, .ref a0_placeOf, .int (q7_faceMany res.2), .int (q7_isLaid res.2), .ref a0_counted, .ref a0_steps, .ref a0_onto, .ref a0_goes, .int (q7_found o0), .int (q7_images o0), .ref a0_firstImage, .int (q7_gathered o0)])), (a0_now, .inl (zI Z, 12, .inl (q7_now o0))), (a0_closed, .inl (zI Z, 256, .inl (q7_closed res.2))), (a0_faces, .inl (zI Z, 256, .inl (q7_faces res.2))), (a0_rankOf, .inl (zI Z, 256, .inl (q7_rankOf res.2))), (a0_placeOf, .inl (zI Z, 256, .inl (q7_placeOf res.2)))] := by
  refine MI_of (by decide +kernel) (Nat.le_of_ble_eq_true rfl) (fun {p e s m args below meth c} A R hR Q hQ C hr hlk => ?_)
  unfold fX7_pointNeighbours at h
  refine g_lv [0, 1] [(0, .ref a0), (1, .int p1)] rfl ?_
  refine g_aload_n C dX7_pointNeighbours_0 rfl 0 rfl ?_
  obtain ⟨r1, hr2, h⟩ := bd_of h
  refine g_callVv C (kX7_lay l Z a0 a0_buffer a0_now a0_made a0_history a0_saved a0_closed a0_faces a0_rankOf a0_placeOf a0_counted a0_steps a0_onto a0_goes a0_firstImage o0 r1 hr2) 0 rfl (ci := 7) rfl rfl myX7_lay 217 mw_6_120 rfl [0, 1, 2, 3, 4, 5] [] [0, 1, 2, 3, 4, 5] (wr := []) rfl rfl (by decide) (by decide) (by decide) [(a0, .inr (7, [.int (q7_thrown o0), .ref a0_buffer, .int (q7_length o0), .int (q7_at o0), .int (q7_from o0), .int (q7_kind o0), .int (q7_number o0), .int (q7_wrong o0), .ref a0_now, .ref a0_made, .ref a0_history, .ref a0_saved, .int (q7_entries o0), .int (q7_isSaved o0), .ref a0_closed, .ref a0_faces, .ref a0_rankOf, .ref a0_placeOf, .int (q7_faceMany r1), .int (q7_isLaid r1), .ref a0_counted, .ref a0_steps, .ref a0_onto, .ref a0_goes, .int (q7_found o0), .int (q7_images o0), .ref a0_firstImage, .int (q7_gathered o0)])), (a0_now, .inl (zI Z, 12, .inl (q7_now o0))), (a0_closed, .inl (zI Z, 256, .inl (q7_closed r1))), (a0_faces, .inl (zI Z, 256, .inl (q7_faces r1))), (a0_rankOf, .inl (zI Z, 256, .inl (q7_rankOf r1))), (a0_placeOf, .inl (zI Z, 256, .inl (q7_placeOf r1)))] rfl (by decide) (Nat.le_of_ble_eq_true rfl) (by rw [hR]; exact Nat.le_of_ble_eq_true rfl) (by rw [hR]; exact Nat.le_of_ble_eq_true rfl) ⟨by rw [hR]; exact Nat.le_of_ble_eq_true rfl, by rw [hR]; exact Nat.le_of_ble_eq_true rfl⟩ rfl dX7_pointNeighbours_1 ?_
  refine g_iconst C 0 dX7_pointNeighbours_4 (by decide) ?_
  refine g_istore_n C dX7_pointNeighbours_5 rfl (by decide) [(2, .int 0), (0, .ref a0), (1, .int p1)] rfl ?_
  refine g_iconst C 0 dX7_pointNeighbours_6 (by decide) ?_
  refine g_istore_n C dX7_pointNeighbours_7 rfl (by decide) [(3, .int 0), (2, .int 0), (0, .ref a0), (1, .int p1)] rfl ?_
  refine g_lv [2, 3, 1, 0] [(0, .ref a0), (1, .int p1), (2, .int 0), (3, .int 0)] rfl ?_
  refine g_loop (lvf := fun v3 => [(0, .ref a0), (1, .int p1), (2, .int v3.1), (3, .int v3.2)]) (wsf := fun v3 => [(a0, .inr (7, [.int (q7_thrown o0), .ref a0_buffer, .int (q7_length o0), .int (q7_at o0), .int (q7_from o0), .int (q7_kind o0), .int (q7_number o0), .int (q7_wrong o0), .ref a0_now, .ref a0_made, .ref a0_history, .ref a0_saved, .int (q7_entries o0), .int (q7_isSaved o0), .ref a0_closed, .ref a0_faces, .ref a0_rankOf, .ref a0_placeOf, .int (q7_faceMany r1), .int (q7_isLaid r1), .ref a0_counted, .ref a0_steps, .ref a0_onto, .ref a0_goes, .int (q7_found o0), .int (q7_images o0), .ref a0_firstImage, .int (q7_gathered o0)])), (a0_now, .inl (zI Z, 12, .inl (q7_now o0))), (a0_closed, .inl (zI Z, 256, .inl (q7_closed r1))), (a0_faces, .inl (zI Z, 256, .inl (q7_faces r1))), (a0_rankOf, .inl (zI Z, 256, .inl (q7_rankOf r1))), (a0_placeOf, .inl (zI Z, 256, .inl (q7_placeOf r1)))]) h (fun v3 y1 h hk1 hx1 => ?_)
  refine g_eq (lv1 := [(0, .ref a0), (1, .int p1), (2, .int v3.1), (3, .int v3.2)]) (st1 := []) (ws1 := [(a0, .inr (7, [.int (q7_thrown o0), .ref a0_buffer, .int (q7_length o0), .int (q7_at o0), .int (q7_from o0), .int (q7_kind o0), .int (q7_number o0), .int (q7_wrong o0), .ref a0_now, .ref a0_made, .ref a0_history, .ref a0_saved, .int (q7_entries o0), .int (q7_isSaved o0), .ref a0_closed, .ref a0_faces, .ref a0_rankOf, .ref a0_placeOf, .int (q7_faceMany r1), .int (q7_isLaid r1), .ref a0_counted, .ref a0_steps, .ref a0_onto, .ref a0_goes, .int (q7_found o0), .int (q7_images o0), .ref a0_firstImage, .int (q7_gathered o0)])), (a0_now, .inl (zI Z, 12, .inl (q7_now o0))), (a0_closed, .inl (zI Z, 256, .inl (q7_closed r1))), (a0_faces, .inl (zI Z, 256, .inl (q7_faces r1))), (a0_rankOf, .inl (zI Z, 256, .inl (q7_rankOf r1))), (a0_placeOf, .inl (zI Z, 256, .inl (q7_placeOf r1)))]) rfl rfl rfl rfl ?_
  unfold fX7_pointNeighbours_L8 at h
  refine g_iload_n C dX7_pointNeighbours_8 rfl 3 rfl ?_
  refine g_aload_n C dX7_pointNeighbours_9 rfl 0 rfl ?_
  refine g_get C 7 13 gin7 0 rfl rfl 8 (by decide) mw_5_93 rfl rfl dX7_pointNeighbours_10 ?_
  refine g_iconst C 0 dX7_pointNeighbours_13 (by decide) ?_
  refine g_iald C 1 rfl (by decide) dX7_pointNeighbours_14 ?_
  refine g_icmp_ge C 61 dX7_pointNeighbours_15 (by decide) (fun c4 => ?_) (fun c4 => ?_)
  · replace h := it_t c4 h
    obtain ⟨r5, h, hy⟩ := ex_of h
    rw [hx1 r5 hy] at h
    refine g_iload_n C dX7_pointNeighbours_61 rfl 2 rfl ?_
    obtain rfl := Option.some.inj h
    subst hQ
    exact g_iret C rfl hr hlk dX7_pointNeighbours_62 [0, 1, 2, 3, 4, 5] rfl (by decide)
  · replace h := it_f c4 h
    refine g_iload_n C dX7_pointNeighbours_18 rfl 2 rfl ?_
    refine g_iload_n C dX7_pointNeighbours_19 rfl 3 rfl ?_
    refine g_iload_n C dX7_pointNeighbours_20 rfl 1 rfl ?_
    refine g_icmp_eq C 52 dX7_pointNeighbours_21 (by decide) (fun c6 => ?_) (fun c6 => ?_)
    · replace h := it_t c6 h
      refine g_iconst C 0 dX7_pointNeighbours_52 (by decide) ?_
      refine g_ior C dX7_pointNeighbours_53 ?_
      refine g_istore_n C dX7_pointNeighbours_54 rfl (by decide) [(2, .int (v3.1 ||| 0)), (0, .ref a0), (1, .int p1), (3, .int v3.2)] rfl ?_
      refine g_iinc C (v3.2 + 1) dX7_pointNeighbours_55 3 rfl rfl (by decide) [(3, .int (v3.2 + 1)), (2, .int (v3.1 ||| 0)), (0, .ref a0), (1, .int p1)] rfl ?_
      refine g_goto C 8 dX7_pointNeighbours_58 (by decide) ?_
      refine g_lv [2, 3, 1, 0] [(0, .ref a0), (1, .int p1), (2, .int (v3.1 ||| 0)), (3, .int (v3.2 + 1))] rfl ?_
      exact hk1 ((v3.1 ||| 0), (v3.2 + 1)) (Option.some.inj h).symm
    · replace h := it_f c6 h
      refine g_aload_n C dX7_pointNeighbours_24 rfl 0 rfl ?_
      refine g_get C 7 25 gin7 0 rfl rfl 14 (by decide) mw_5_99 rfl rfl dX7_pointNeighbours_25 ?_
      refine g_iconst C 1 dX7_pointNeighbours_28 (by decide) ?_
      refine g_iload_n C dX7_pointNeighbours_29 rfl 1 rfl ?_
      refine g_ishl C dX7_pointNeighbours_30 ?_
      refine g_iconst C 1 dX7_pointNeighbours_31 (by decide) ?_
      refine g_iload_n C dX7_pointNeighbours_32 rfl 3 rfl ?_
      refine g_ishl C dX7_pointNeighbours_33 ?_
      refine g_ior C dX7_pointNeighbours_34 ?_
      obtain ⟨hi7, h⟩ := ck_of h
      refine g_iald C 2 rfl hi7 dX7_pointNeighbours_35 ?_
      refine g_iconst C 1 dX7_pointNeighbours_36 (by decide) ?_
      refine g_iload_n C dX7_pointNeighbours_37 rfl 1 rfl ?_
      refine g_ishl C dX7_pointNeighbours_38 ?_
      refine g_iconst C 1 dX7_pointNeighbours_39 (by decide) ?_
      refine g_iload_n C dX7_pointNeighbours_40 rfl 3 rfl ?_
      refine g_ishl C dX7_pointNeighbours_41 ?_
      refine g_ior C dX7_pointNeighbours_42 ?_
      refine g_icmp_ne C 52 dX7_pointNeighbours_43 (by decide) (fun c8 => ?_) (fun c8 => ?_)
      · replace h := it_f c8 h
        refine g_iconst C 0 dX7_pointNeighbours_52 (by decide) ?_
        refine g_ior C dX7_pointNeighbours_53 ?_
        refine g_istore_n C dX7_pointNeighbours_54 rfl (by decide) [(2, .int (v3.1 ||| 0)), (0, .ref a0), (1, .int p1), (3, .int v3.2)] rfl ?_
        refine g_iinc C (v3.2 + 1) dX7_pointNeighbours_55 3 rfl rfl (by decide) [(3, .int (v3.2 + 1)), (2, .int (v3.1 ||| 0)), (0, .ref a0), (1, .int p1)] rfl ?_
        refine g_goto C 8 dX7_pointNeighbours_58 (by decide) ?_
        refine g_lv [2, 3, 1, 0] [(0, .ref a0), (1, .int p1), (2, .int (v3.1 ||| 0)), (3, .int (v3.2 + 1))] rfl ?_
        exact hk1 ((v3.1 ||| 0), (v3.2 + 1)) (Option.some.inj h).symm
      · replace h := it_t c8 h
        refine g_iconst C 1 dX7_pointNeighbours_46 (by decide) ?_
        refine g_iload_n C dX7_pointNeighbours_47 rfl 3 rfl ?_
        refine g_ishl C dX7_pointNeighbours_48 ?_
        refine g_goto C 53 dX7_pointNeighbours_49 (by decide) ?_
        refine g_ior C dX7_pointNeighbours_53 ?_
        refine g_istore_n C dX7_pointNeighbours_54 rfl (by decide) [(2, .int (v3.1 ||| (jshl 1 v3.2))), (0, .ref a0), (1, .int p1), (3, .int v3.2)] rfl ?_
        refine g_iinc C (v3.2 + 1) dX7_pointNeighbours_55 3 rfl rfl (by decide) [(3, .int (v3.2 + 1)), (2, .int (v3.1 ||| (jshl 1 v3.2))), (0, .ref a0), (1, .int p1)] rfl ?_
        refine g_goto C 8 dX7_pointNeighbours_58 (by decide) ?_
        refine g_lv [2, 3, 1, 0] [(0, .ref a0), (1, .int p1), (2, .int (v3.1 ||| (jshl 1 v3.2))), (3, .int (v3.2 + 1))] rfl ?_
        exact hk1 ((v3.1 ||| (jshl 1 v3.2)), (v3.2 + 1)) (Option.some.inj h).symm
def fX7_without (p0 : Int32) (p1 : Int32) : Option (Int32) :=
  some ((p0 &&& ((jshl 1 p1) - 1)) ||| (jshl (jshr p0 (p1 + 1)) p1))
theorem myX7_without : MYs yX7_without cX7_without 2 (some .int) 2 := ⟨mw_6_168, mw_6_169, mw_1_9, ⟨by decide +kernel, by decide +kernel⟩, by decide +kernel⟩
set_option maxRecDepth 100000 in
set_option maxHeartbeats 4000000 in
theorem kX7_without (l : Launch) (Z : GZ) (p0 : Int32) (p1 : Int32) (res : Int32) (h : fX7_without p0 p1 = some res) : MI l Z yX7_without cX7_without 2 .int 0 0 [.int p0, .int p1] [] res [] := by
  refine MI_of (by decide +kernel) (Nat.le_of_ble_eq_true rfl) (fun {p e s m args below meth c} A R hR Q hQ C hr hlk => ?_)
  unfold fX7_without at h
  refine g_lv [0, 1] [(0, .int p0), (1, .int p1)] rfl ?_
  refine g_iload_n C dX7_without_0 rfl 0 rfl ?_
  refine g_iconst C 1 dX7_without_1 (by decide) ?_
  refine g_iload_n C dX7_without_2 rfl 1 rfl ?_
  refine g_ishl C dX7_without_3 ?_
  refine g_iconst C 1 dX7_without_4 (by decide) ?_
  refine g_isub C dX7_without_5 ?_
  refine g_iand C dX7_without_6 ?_
  refine g_iload_n C dX7_without_7 rfl 0 rfl ?_
  refine g_iload_n C dX7_without_8 rfl 1 rfl ?_
  refine g_iconst C 1 dX7_without_9 (by decide) ?_
  refine g_iadd C dX7_without_10 ?_
  refine g_ishr C dX7_without_11 ?_
  refine g_iload_n C dX7_without_12 rfl 1 rfl ?_
  refine g_ishl C dX7_without_13 ?_
  refine g_ior C dX7_without_14 ?_
  obtain rfl := Option.some.inj h
  subst hQ
  exact g_iret C rfl hr hlk dX7_without_15 [] rfl (by decide)
def fX7_cutOff_L138 (o0 : OX7) (p1 : Int32) (r6 : Int32 × OX7) (r11 : Int32 × OX7) (r14 : OX7) (v18 : Int32 × (Nat → Int32)) (v32 : Int32 × Int32 × Int32) : Option ((Int32 × Int32 × Int32) ⊕ ((Int32 × (Nat → Int32)) ⊕ (Int32 × OX7))) :=
  if 8 ≤ v32.2.2 then (ex ((fX7_add (s7_isLaid (s7_faceMany (s7_placeOf (s7_rankOf (s7_faces (s7_closed (s7_entries (s7_history (s7_made (s7_thrown o0 (q7_thrown r11.2)) v18.2) (q7_history r14)) (q7_entries r14)) (q7_closed r6.2)) (q7_faces r6.2)) (q7_rankOf r6.2)) (q7_placeOf r6.2)) (q7_faceMany r6.2)) (q7_isLaid r14)) v32.1).bind fun r35 =>
  (some (.inl ((v18.1 + 1), (q7_made r35))))))
  else ((fX7_has r6.1 v32.2.2).bind fun r37 =>
  (if r37 = 0 then (some (.inl (v32.1, v32.2.1, (v32.2.2 + 1))))
  else ((fX7_has ((q7_now o0) (ix (2 + v18.1))) p1).bind fun r40 =>
  (if r40 = 0 then (some (.inl ((v32.1 ||| 0), (v32.2.1 + 1), (v32.2.2 + 1))))
  else ((fX7_has ((q7_now o0) (ix (2 + v18.1))) v32.2.2).bind fun r43 =>
  (if r43 = 0 then (some (.inl ((v32.1 ||| 0), (v32.2.1 + 1), (v32.2.2 + 1))))
  else (some (.inl ((v32.1 ||| (jshl 1 v32.2.1)), (v32.2.1 + 1), (v32.2.2 + 1))))))))))
def fX7_cutOff_L101 (o0 : OX7) (p1 : Int32) (r6 : Int32 × OX7) (r8 : Int32) (r11 : Int32 × OX7) (r14 : OX7) (v18 : Int32 × (Nat → Int32)) : Option ((Int32 × (Nat → Int32)) ⊕ (Int32 × OX7)) :=
  if ((q7_now o0) (ix 1)) ≤ v18.1 then (ex ((fX7_every ((((q7_now o0) (ix 0)) - 1) + r8)).bind fun r21 =>
  ((fX7_every (((q7_now o0) (ix 0)) - 1)).bind fun r23 =>
  ((fX7_add (s7_isLaid (s7_faceMany (s7_placeOf (s7_rankOf (s7_faces (s7_closed (s7_entries (s7_history (s7_made (s7_thrown o0 (q7_thrown r11.2)) v18.2) (q7_history r14)) (q7_entries r14)) (q7_closed r6.2)) (q7_faces r6.2)) (q7_rankOf r6.2)) (q7_placeOf r6.2)) (q7_faceMany r6.2)) (q7_isLaid r14)) (r21 &&& (r23 ^^^ (-1)))).bind fun r25 =>
  ((fX7_takeMade (s7_isLaid (s7_faceMany (s7_placeOf (s7_rankOf (s7_faces (s7_closed (s7_entries (s7_history (s7_made (s7_thrown o0 (q7_thrown r11.2)) (q7_made r25)) (q7_history r14)) (q7_entries r14)) (q7_closed r6.2)) (q7_faces r6.2)) (q7_rankOf r6.2)) (q7_placeOf r6.2)) (q7_faceMany r6.2)) (q7_isLaid r14))).bind fun r27 =>
  (some (((q7_now r27) (ix 0)), (s7_isLaid (s7_faceMany (s7_placeOf (s7_rankOf (s7_faces (s7_closed (s7_entries (s7_history (s7_made (s7_now (s7_thrown o0 (q7_thrown r11.2)) (q7_now r27)) (q7_made r25)) (q7_history r14)) (q7_entries r14)) (q7_closed r6.2)) (q7_faces r6.2)) (q7_rankOf r6.2)) (q7_placeOf r6.2)) (q7_faceMany r6.2)) (q7_isLaid r27)))))))))
  else (ck (okI (2 + v18.1) 12) ((fX7_without ((q7_now o0) (ix (2 + v18.1))) p1).bind fun r30 =>
  (lp (fX7_cutOff_L138 o0 p1 r6 r11 r14 v18) lpN (r30, (((q7_now o0) (ix 0)) - 1), 0))))
def fX7_cutOff_J67 (o0 : OX7) (p1 : Int32) (r3 : Int32 × OX7) (r6 : Int32 × OX7) (r8 : Int32) (x10 : Int32) : Option (Int32 × OX7) :=
  (fX7_fails (s7_isLaid (s7_faceMany (s7_placeOf (s7_rankOf (s7_faces (s7_closed (s7_thrown o0 (q7_thrown r3.2)) (q7_closed r6.2)) (q7_faces r6.2)) (q7_rankOf r6.2)) (q7_placeOf r6.2)) (q7_faceMany r6.2)) (q7_isLaid r6.2)) x10 2).bind fun r11 =>
  (if r11.1 = 0 then ((fX7_record (s7_isLaid (s7_faceMany (s7_placeOf (s7_rankOf (s7_faces (s7_closed (s7_thrown o0 (q7_thrown r11.2)) (q7_closed r6.2)) (q7_faces r6.2)) (q7_rankOf r6.2)) (q7_placeOf r6.2)) (q7_faceMany r6.2)) (q7_isLaid r6.2))).bind fun r14 =>
  ((fX7_begin (s7_isLaid (s7_faceMany (s7_placeOf (s7_rankOf (s7_faces (s7_closed (s7_entries (s7_history (s7_thrown o0 (q7_thrown r11.2)) (q7_history r14)) (q7_entries r14)) (q7_closed r6.2)) (q7_faces r6.2)) (q7_rankOf r6.2)) (q7_placeOf r6.2)) (q7_faceMany r6.2)) (q7_isLaid r14)) ((((q7_now o0) (ix 0)) - 1) + r8)).bind fun r16 =>
  (lp (fX7_cutOff_L101 o0 p1 r6 r8 r11 r14) lpN (0, (q7_made r16)))))
  else (some (0, (s7_isLaid (s7_faceMany (s7_placeOf (s7_rankOf (s7_faces (s7_closed (s7_thrown o0 (q7_thrown r11.2)) (q7_closed r6.2)) (q7_faces r6.2)) (q7_rankOf r6.2)) (q7_placeOf r6.2)) (q7_faceMany r6.2)) (q7_isLaid r6.2)))))
def fX7_cutOff_J66 (o0 : OX7) (p1 : Int32) (r3 : Int32 × OX7) (r6 : Int32 × OX7) (r8 : Int32) : Option (Int32 × OX7) :=
  fX7_cutOff_J67 o0 p1 r3 r6 r8 0
def fX7_cutOff (o0 : OX7) (p1 : Int32) : Option (Int32 × OX7) :=
  (fX7_isPoint (s7_thrown o0 0) p1).bind fun r1 =>
  ((fX7_fails (s7_thrown o0 0) r1 1).bind fun r3 =>
  (if r3.1 = 0 then ((fX7_pointNeighbours (s7_thrown o0 (q7_thrown r3.2)) p1).bind fun r6 =>
  ((fX7_bits r6.1).bind fun r8 =>
  (if r8 ≤ 0 then (fX7_cutOff_J66 o0 p1 r3 r6 r8)
  else (if 8 < ((((q7_now o0) (ix 0)) - 1) + r8) then (fX7_cutOff_J66 o0 p1 r3 r6 r8)
  else (if 10 ≤ ((q7_now o0) (ix 1)) then (fX7_cutOff_J66 o0 p1 r3 r6 r8)
  else (fX7_cutOff_J67 o0 p1 r3 r6 r8 1))))))
  else (some (0, (s7_thrown o0 (q7_thrown r3.2))))))
theorem myX7_cutOff : MYv yX7_cutOff cX7_cutOff 10 (some .int) 1 := ⟨mw_6_157, mw_6_158, mw_6_159, mw_1_9, ⟨by decide +kernel, by decide +kernel⟩, by decide +kernel⟩
set_option maxRecDepth 100000 in
set_option maxHeartbeats 4000000 in
theorem kX7_cutOff (l : Launch) (Z : GZ) (a0 a0_buffer a0_now a0_made a0_history a0_saved a0_closed a0_faces a0_rankOf a0_placeOf a0_counted a0_steps a0_onto a0_goes a0_firstImage : Nat) (o0 : OX7) (p1 : Int32) (res : Int32 × OX7) (h : fX7_cutOff o0 p1 = some res) : MI l Z yX7_cutOff cX7_cutOff 10 .int 5 112 [.ref a0, .int p1] [(a0, .inr (7, [.int (q7_thrown o0), .ref a0_buffer, .int (q7_length o0), .int (q7_at o0), .int (q7_from o0), .int (q7_kind o0), .int (q7_number o0), .int (q7_wrong o0), .ref a0_now, .ref a0_made, .ref a0_history, .ref a0_saved, .int (q7_entries o0), .int (q7_isSaved o0), .ref a0_closed, .ref a0_faces, .ref a0_rankOf, .ref a0_placeOf, .int (q7_faceMany o0), .int (q7_isLaid o0), .ref a0_counted, .ref a0_steps, .ref a0_onto, .ref a0_goes, .int (q7_found o0), .int (q7_images o0), .ref a0_firstImage, .int (q7_gathered o0)])), (a0_now, .inl (zI Z, 12, .inl (q7_now o0))), (a0_made, .inl (zI Z, 12, .inl (q7_made o0))), (a0_history, .inl (zI Z, 96, .inl (q7_history o0))), (a0_closed, .inl (zI Z, 256, .inl (q7_closed o0))), (a0_faces, .inl (zI Z, 256, .inl (q7_faces o0))), (a0_rankOf, .inl (zI Z, 256, .inl (q7_rankOf o0))), (a0_placeOf, .inl (zI Z, 256, .inl (q7_placeOf o0)))] res.1 [(a0, .inr (7, [.int (q7_thrown res.2), .ref a0_buffer, .int (q7_length o0), .int (q7_at o0), .int (q7_from o0), .int (q7_kind o0), .int (q7_number o0), .int (q7_wrong o0), .ref a0_now, .ref a0_made, .ref a0_history, .ref a0_saved, .int (q7_entries res.2), .int (q7_isSaved o0), .ref a0_closed, .ref a0_faces, .ref a0_rankOf, .ref a0_placeOf, .int (q7_faceMany res.2), .int (q7_isLaid res.2), .ref a0_counted, .ref a0_steps, .ref a0_onto, .ref a0_goes, .int (q7_found o0), .int (q7_images o0), .ref a0_firstImage, .int (q7_gathered o0)])), (a0_now, .inl (zI Z, 12, .inl (q7_now res.2))), (a0_made, .inl (zI Z, 12, .inl (q7_made res.2))), (a0_history, .inl (zI Z, 96, .inl (q7_history res.2))), (a0_closed, .inl (zI Z, 256, .inl (q7_closed res.2))), (a0_faces, .inl (zI Z, 256, .inl (q7_faces res.2))), (a0_rankOf, .inl (zI Z, 256, .inl (q7_rankOf res.2))), (a0_placeOf, .inl (zI Z, 256, .inl (q7_placeOf res.2)))] := by
  refine MI_of (by decide +kernel) (Nat.le_of_ble_eq_true rfl) (fun {p e s m args below meth c} A R hR Q hQ C hr hlk => ?_)
  unfold fX7_cutOff at h
  refine g_lv [0, 1] [(0, .ref a0), (1, .int p1)] rfl ?_
  refine g_aload_n C dX7_cutOff_0 rfl 0 rfl ?_
  refine g_iconst C 0 dX7_cutOff_1 (by decide) ?_
  refine g_put C 7 52 gin7 tyX7 tyX7_ok nmX7 0 rfl rfl 0 (by decide) mw_5_85 rfl rfl (ty := .int) (by decide +kernel) rfl rfl (Nat.le_of_ble_eq_true rfl) [(a0, .inr (7, [.int 0, .ref a0_buffer, .int (q7_length o0), .int (q7_at o0), .int (q7_from o0), .int (q7_kind o0), .int (q7_number o0), .int (q7_wrong o0), .ref a0_now, .ref a0_made, .ref a0_history, .ref a0_saved, .int (q7_entries o0), .int (q7_isSaved o0), .ref a0_closed, .ref a0_faces, .ref a0_rankOf, .ref a0_placeOf, .int (q7_faceMany o0), .int (q7_isLaid o0), .ref a0_counted, .ref a0_steps, .ref a0_onto, .ref a0_goes, .int (q7_found o0), .int (q7_images o0), .ref a0_firstImage, .int (q7_gathered o0)])), (a0_now, .inl (zI Z, 12, .inl (q7_now o0))), (a0_made, .inl (zI Z, 12, .inl (q7_made o0))), (a0_history, .inl (zI Z, 96, .inl (q7_history o0))), (a0_closed, .inl (zI Z, 256, .inl (q7_closed o0))), (a0_faces, .inl (zI Z, 256, .inl (q7_faces o0))), (a0_rankOf, .inl (zI Z, 256, .inl (q7_rankOf o0))), (a0_placeOf, .inl (zI Z, 256, .inl (q7_placeOf o0)))] rfl dX7_cutOff_2 ?_
  refine g_aload_n C dX7_cutOff_5 rfl 0 rfl ?_
  refine g_aload_n C dX7_cutOff_6 rfl 0 rfl ?_
  refine g_iload_n C dX7_cutOff_7 rfl 1 rfl ?_
  obtain ⟨r1, hr2, h⟩ := bd_of h
  refine g_callVi C (kX7_isPoint l Z a0 a0_buffer a0_now a0_made a0_history a0_saved a0_closed a0_faces a0_rankOf a0_placeOf a0_counted a0_steps a0_onto a0_goes a0_firstImage (s7_thrown o0 0) p1 r1 hr2) 0 rfl (ci := 7) rfl rfl myX7_isPoint 220 mw_6_76 rfl [0, 1] [2, 3, 4, 5, 6, 7] [6, 7, 0, 1, 2, 3, 4, 5] (wr := [(a0_made, .inl (zI Z, 12, .inl (q7_made o0))), (a0_history, .inl (zI Z, 96, .inl (q7_history o0))), (a0_closed, .inl (zI Z, 256, .inl (q7_closed o0))), (a0_faces, .inl (zI Z, 256, .inl (q7_faces o0))), (a0_rankOf, .inl (zI Z, 256, .inl (q7_rankOf o0))), (a0_placeOf, .inl (zI Z, 256, .inl (q7_placeOf o0)))]) rfl rfl (by decide) (by decide) (by decide) [(a0, .inr (7, [.int 0, .ref a0_buffer, .int (q7_length o0), .int (q7_at o0), .int (q7_from o0), .int (q7_kind o0), .int (q7_number o0), .int (q7_wrong o0), .ref a0_now, .ref a0_made, .ref a0_history, .ref a0_saved, .int (q7_entries o0), .int (q7_isSaved o0), .ref a0_closed, .ref a0_faces, .ref a0_rankOf, .ref a0_placeOf, .int (q7_faceMany o0), .int (q7_isLaid o0), .ref a0_counted, .ref a0_steps, .ref a0_onto, .ref a0_goes, .int (q7_found o0), .int (q7_images o0), .ref a0_firstImage, .int (q7_gathered o0)])), (a0_now, .inl (zI Z, 12, .inl (q7_now o0))), (a0_made, .inl (zI Z, 12, .inl (q7_made o0))), (a0_history, .inl (zI Z, 96, .inl (q7_history o0))), (a0_closed, .inl (zI Z, 256, .inl (q7_closed o0))), (a0_faces, .inl (zI Z, 256, .inl (q7_faces o0))), (a0_rankOf, .inl (zI Z, 256, .inl (q7_rankOf o0))), (a0_placeOf, .inl (zI Z, 256, .inl (q7_placeOf o0)))] rfl (by decide) (Nat.le_of_ble_eq_true rfl) (by rw [hR]; exact Nat.le_of_ble_eq_true rfl) (by rw [hR]; exact Nat.le_of_ble_eq_true rfl) ⟨by rw [hR]; exact Nat.le_of_ble_eq_true rfl, by rw [hR]; exact Nat.le_of_ble_eq_true rfl⟩ rfl dX7_cutOff_8 ?_
  refine g_iconst C 1 dX7_cutOff_11 (by decide) ?_
  obtain ⟨r3, hr4, h⟩ := bd_of h
  refine g_callVi C (kX7_fails l Z a0 a0_buffer a0_now a0_made a0_history a0_saved a0_closed a0_faces a0_rankOf a0_placeOf a0_counted a0_steps a0_onto a0_goes a0_firstImage (s7_thrown o0 0) r1 1 r3 hr4) 0 rfl (ci := 7) rfl rfl myX7_fails 63 mw_5_181 rfl [0] [1, 2, 3, 4, 5, 6, 7] [7, 0, 1, 2, 3, 4, 5, 6] (wr := [(a0_now, .inl (zI Z, 12, .inl (q7_now o0))), (a0_made, .inl (zI Z, 12, .inl (q7_made o0))), (a0_history, .inl (zI Z, 96, .inl (q7_history o0))), (a0_closed, .inl (zI Z, 256, .inl (q7_closed o0))), (a0_faces, .inl (zI Z, 256, .inl (q7_faces o0))), (a0_rankOf, .inl (zI Z, 256, .inl (q7_rankOf o0))), (a0_placeOf, .inl (zI Z, 256, .inl (q7_placeOf o0)))]) rfl rfl (by decide) (by decide) (by decide) [(a0, .inr (7, [.int (q7_thrown r3.2), .ref a0_buffer, .int (q7_length o0), .int (q7_at o0), .int (q7_from o0), .int (q7_kind o0), .int (q7_number o0), .int (q7_wrong o0), .ref a0_now, .ref a0_made, .ref a0_history, .ref a0_saved, .int (q7_entries o0), .int (q7_isSaved o0), .ref a0_closed, .ref a0_faces, .ref a0_rankOf, .ref a0_placeOf, .int (q7_faceMany o0), .int (q7_isLaid o0), .ref a0_counted, .ref a0_steps, .ref a0_onto, .ref a0_goes, .int (q7_found o0), .int (q7_images o0), .ref a0_firstImage, .int (q7_gathered o0)])), (a0_now, .inl (zI Z, 12, .inl (q7_now o0))), (a0_made, .inl (zI Z, 12, .inl (q7_made o0))), (a0_history, .inl (zI Z, 96, .inl (q7_history o0))), (a0_closed, .inl (zI Z, 256, .inl (q7_closed o0))), (a0_faces, .inl (zI Z, 256, .inl (q7_faces o0))), (a0_rankOf, .inl (zI Z, 256, .inl (q7_rankOf o0))), (a0_placeOf, .inl (zI Z, 256, .inl (q7_placeOf o0)))] rfl (by decide) (Nat.le_of_ble_eq_true rfl) (by rw [hR]; exact Nat.le_of_ble_eq_true rfl) (by rw [hR]; exact Nat.le_of_ble_eq_true rfl) ⟨by rw [hR]; exact Nat.le_of_ble_eq_true rfl, by rw [hR]; exact Nat.le_of_ble_eq_true rfl⟩ rfl dX7_cutOff_12 ?_
  refine g_if_eq C 20 dX7_cutOff_15 (by decide) (fun c5 => ?_) (fun c5 => ?_)
  · replace h := it_t c5 h
    refine g_aload_n C dX7_cutOff_20 rfl 0 rfl ?_
    refine g_iload_n C dX7_cutOff_21 rfl 1 rfl ?_
    obtain ⟨r6, hr7, h⟩ := bd_of h
    refine g_callVi C (kX7_pointNeighbours l Z a0 a0_buffer a0_now a0_made a0_history a0_saved a0_closed a0_faces a0_rankOf a0_placeOf a0_counted a0_steps a0_onto a0_goes a0_firstImage (s7_thrown o0 (q7_thrown r3.2)) p1 r6 hr7) 0 rfl (ci := 7) rfl rfl myX7_pointNeighbours 248 mw_6_160 rfl [0, 1, 4, 5, 6, 7] [2, 3] [2, 3, 0, 1, 4, 5, 6, 7] (wr := [(a0_made, .inl (zI Z, 12, .inl (q7_made o0))), (a0_history, .inl (zI Z, 96, .inl (q7_history o0)))]) rfl rfl (by decide) (by decide) (by decide) [(a0, .inr (7, [.int (q7_thrown r3.2), .ref a0_buffer, .int (q7_length o0), .int (q7_at o0), .int (q7_from o0), .int (q7_kind o0), .int (q7_number o0), .int (q7_wrong o0), .ref a0_now, .ref a0_made, .ref a0_history, .ref a0_saved, .int (q7_entries o0), .int (q7_isSaved o0), .ref a0_closed, .ref a0_faces, .ref a0_rankOf, .ref a0_placeOf, .int (q7_faceMany r6.2), .int (q7_isLaid r6.2), .ref a0_counted, .ref a0_steps, .ref a0_onto, .ref a0_goes, .int (q7_found o0), .int (q7_images o0), .ref a0_firstImage, .int (q7_gathered o0)])), (a0_now, .inl (zI Z, 12, .inl (q7_now o0))), (a0_made, .inl (zI Z, 12, .inl (q7_made o0))), (a0_history, .inl (zI Z, 96, .inl (q7_history o0))), (a0_closed, .inl (zI Z, 256, .inl (q7_closed r6.2))), (a0_faces, .inl (zI Z, 256, .inl (q7_faces r6.2))), (a0_rankOf, .inl (zI Z, 256, .inl (q7_rankOf r6.2))), (a0_placeOf, .inl (zI Z, 256, .inl (q7_placeOf r6.2)))] rfl (by decide) (Nat.le_of_ble_eq_true rfl) (by rw [hR]; exact Nat.le_of_ble_eq_true rfl) (by rw [hR]; exact Nat.le_of_ble_eq_true rfl) ⟨by rw [hR]; exact Nat.le_of_ble_eq_true rfl, by rw [hR]; exact Nat.le_of_ble_eq_true rfl⟩ rfl dX7_cutOff_22 ?_
    refine g_istore_n C dX7_cutOff_25 rfl (by decide) [(2, .int r6.1), (0, .ref a0), (1, .int p1)] rfl ?_
    refine g_iload_n C dX7_cutOff_26 rfl 0 rfl ?_
    obtain ⟨r8, hr9, h⟩ := bd_of h
    refine g_callSi C (kX7_bits l Z r6.1 r8 hr9) myX7_bits 251 mw_6_164 rfl [] [0, 1, 2, 3, 4, 5, 6, 7] [0, 1, 2, 3, 4, 5, 6, 7] (wr := [(a0, .inr (7, [.int (q7_thrown r3.2), .ref a0_buffer, .int (q7_length o0), .int (q7_at o0), .int (q7_from o0), .int (q7_kind o0), .int (q7_number o0), .int (q7_wrong o0), .ref a0_now, .ref a0_made, .ref a0_history, .ref a0_saved, .int (q7_entries o0), .int (q7_isSaved o0), .ref a0_closed, .ref a0_faces, .ref a0_rankOf, .ref a0_placeOf, .int (q7_faceMany r6.2), .int (q7_isLaid r6.2), .ref a0_counted, .ref a0_steps, .ref a0_onto, .ref a0_goes, .int (q7_found o0), .int (q7_images o0), .ref a0_firstImage, .int (q7_gathered o0)])), (a0_now, .inl (zI Z, 12, .inl (q7_now o0))), (a0_made, .inl (zI Z, 12, .inl (q7_made o0))), (a0_history, .inl (zI Z, 96, .inl (q7_history o0))), (a0_closed, .inl (zI Z, 256, .inl (q7_closed r6.2))), (a0_faces, .inl (zI Z, 256, .inl (q7_faces r6.2))), (a0_rankOf, .inl (zI Z, 256, .inl (q7_rankOf r6.2))), (a0_placeOf, .inl (zI Z, 256, .inl (q7_placeOf r6.2)))]) rfl rfl (by decide) (by decide) (by decide) [(a0, .inr (7, [.int (q7_thrown r3.2), .ref a0_buffer, .int (q7_length o0), .int (q7_at o0), .int (q7_from o0), .int (q7_kind o0), .int (q7_number o0), .int (q7_wrong o0), .ref a0_now, .ref a0_made, .ref a0_history, .ref a0_saved, .int (q7_entries o0), .int (q7_isSaved o0), .ref a0_closed, .ref a0_faces, .ref a0_rankOf, .ref a0_placeOf, .int (q7_faceMany r6.2), .int (q7_isLaid r6.2), .ref a0_counted, .ref a0_steps, .ref a0_onto, .ref a0_goes, .int (q7_found o0), .int (q7_images o0), .ref a0_firstImage, .int (q7_gathered o0)])), (a0_now, .inl (zI Z, 12, .inl (q7_now o0))), (a0_made, .inl (zI Z, 12, .inl (q7_made o0))), (a0_history, .inl (zI Z, 96, .inl (q7_history o0))), (a0_closed, .inl (zI Z, 256, .inl (q7_closed r6.2))), (a0_faces, .inl (zI Z, 256, .inl (q7_faces r6.2))), (a0_rankOf, .inl (zI Z, 256, .inl (q7_rankOf r6.2))), (a0_placeOf, .inl (zI Z, 256, .inl (q7_placeOf r6.2)))] rfl (by decide) (Nat.le_of_ble_eq_true rfl) (by rw [hR]; exact Nat.le_of_ble_eq_true rfl) (by rw [hR]; exact Nat.le_of_ble_eq_true rfl) ⟨by rw [hR]; exact Nat.le_of_ble_eq_true rfl, by rw [hR]; exact Nat.le_of_ble_eq_true rfl⟩ rfl dX7_cutOff_27 ?_
    refine g_istore_n C dX7_cutOff_30 rfl (by decide) [(3, .int r8), (2, .int r6.1), (0, .ref a0), (1, .int p1)] rfl ?_
    refine g_aload_n C dX7_cutOff_31 rfl 2 rfl ?_
    refine g_iload_n C dX7_cutOff_32 rfl 0 rfl ?_
    have hj67 : ∀ (x10 : Int32), fX7_cutOff_J67 o0 p1 r3 r6 r8 x10 = some res → Gw p l e R s m args below meth c 10 Z A Q 0 0 67 [(0, .ref a0), (1, .int p1), (2, .int r6.1), (3, .int r8)] [.int x10, .ref a0] [(a0, .inr (7, [.int (q7_thrown r3.2), .ref a0_buffer, .int (q7_length o0), .int (q7_at o0), .int (q7_from o0), .int (q7_kind o0), .int (q7_number o0), .int (q7_wrong o0), .ref a0_now, .ref a0_made, .ref a0_history, .ref a0_saved, .int (q7_entries o0), .int (q7_isSaved o0), .ref a0_closed, .ref a0_faces, .ref a0_rankOf, .ref a0_placeOf, .int (q7_faceMany r6.2), .int (q7_isLaid r6.2), .ref a0_counted, .ref a0_steps, .ref a0_onto, .ref a0_goes, .int (q7_found o0), .int (q7_images o0), .ref a0_firstImage, .int (q7_gathered o0)])), (a0_now, .inl (zI Z, 12, .inl (q7_now o0))), (a0_made, .inl (zI Z, 12, .inl (q7_made o0))), (a0_history, .inl (zI Z, 96, .inl (q7_history o0))), (a0_closed, .inl (zI Z, 256, .inl (q7_closed r6.2))), (a0_faces, .inl (zI Z, 256, .inl (q7_faces r6.2))), (a0_rankOf, .inl (zI Z, 256, .inl (q7_rankOf r6.2))), (a0_placeOf, .inl (zI Z, 256, .inl (q7_placeOf r6.2)))] := by
      intro x10 h
      unfold fX7_cutOff_J67 at h
      refine g_iconst C 2 dX7_cutOff_67 (by decide) ?_
      obtain ⟨r11, hr12, h⟩ := bd_of h
      refine g_callVi C (kX7_fails l Z a0 a0_buffer a0_now a0_made a0_history a0_saved a0_closed a0_faces a0_rankOf a0_placeOf a0_counted a0_steps a0_onto a0_goes a0_firstImage (s7_isLaid (s7_faceMany (s7_placeOf (s7_rankOf (s7_faces (s7_closed (s7_thrown o0 (q7_thrown r3.2)) (q7_closed r6.2)) (q7_faces r6.2)) (q7_rankOf r6.2)) (q7_placeOf r6.2)) (q7_faceMany r6.2)) (q7_isLaid r6.2)) x10 2 r11 hr12) 0 rfl (ci := 7) rfl rfl myX7_fails 63 mw_5_181 rfl [0] [1, 2, 3, 4, 5, 6, 7] [7, 0, 1, 2, 3, 4, 5, 6] (wr := [(a0_now, .inl (zI Z, 12, .inl (q7_now o0))), (a0_made, .inl (zI Z, 12, .inl (q7_made o0))), (a0_history, .inl (zI Z, 96, .inl (q7_history o0))), (a0_closed, .inl (zI Z, 256, .inl (q7_closed r6.2))), (a0_faces, .inl (zI Z, 256, .inl (q7_faces r6.2))), (a0_rankOf, .inl (zI Z, 256, .inl (q7_rankOf r6.2))), (a0_placeOf, .inl (zI Z, 256, .inl (q7_placeOf r6.2)))]) rfl rfl (by decide) (by decide) (by decide) [(a0, .inr (7, [.int (q7_thrown r11.2), .ref a0_buffer, .int (q7_length o0), .int (q7_at o0), .int (q7_from o0), .int (q7_kind o0), .int (q7_number o0), .int (q7_wrong o0), .ref a0_now, .ref a0_made, .ref a0_history, .ref a0_saved, .int (q7_entries o0), .int (q7_isSaved o0), .ref a0_closed, .ref a0_faces, .ref a0_rankOf, .ref a0_placeOf, .int (q7_faceMany r6.2), .int (q7_isLaid r6.2), .ref a0_counted, .ref a0_steps, .ref a0_onto, .ref a0_goes, .int (q7_found o0), .int (q7_images o0), .ref a0_firstImage, .int (q7_gathered o0)])), (a0_now, .inl (zI Z, 12, .inl (q7_now o0))), (a0_made, .inl (zI Z, 12, .inl (q7_made o0))), (a0_history, .inl (zI Z, 96, .inl (q7_history o0))), (a0_closed, .inl (zI Z, 256, .inl (q7_closed r6.2))), (a0_faces, .inl (zI Z, 256, .inl (q7_faces r6.2))), (a0_rankOf, .inl (zI Z, 256, .inl (q7_rankOf r6.2))), (a0_placeOf, .inl (zI Z, 256, .inl (q7_placeOf r6.2)))] rfl (by decide) (Nat.le_of_ble_eq_true rfl) (by rw [hR]; exact Nat.le_of_ble_eq_true rfl) (by rw [hR]; exact Nat.le_of_ble_eq_true rfl) ⟨by rw [hR]; exact Nat.le_of_ble_eq_true rfl, by rw [hR]; exact Nat.le_of_ble_eq_true rfl⟩ rfl dX7_cutOff_68 ?_
      refine g_if_eq C 76 dX7_cutOff_71 (by decide) (fun c13 => ?_) (fun c13 => ?_)
      · replace h := it_t c13 h
        refine g_aload_n C dX7_cutOff_76 rfl 0 rfl ?_
        obtain ⟨r14, hr15, h⟩ := bd_of h
        refine g_callVv C (kX7_record l Z a0 a0_buffer a0_now a0_made a0_history a0_saved a0_closed a0_faces a0_rankOf a0_placeOf a0_counted a0_steps a0_onto a0_goes a0_firstImage (s7_isLaid (s7_faceMany (s7_placeOf (s7_rankOf (s7_faces (s7_closed (s7_thrown o0 (q7_thrown r11.2)) (q7_closed r6.2)) (q7_faces r6.2)) (q7_rankOf r6.2)) (q7_placeOf r6.2)) (q7_faceMany r6.2)) (q7_isLaid r6.2)) r14 hr15) 0 rfl (ci := 7) rfl rfl myX7_record 226 mw_6_84 rfl [0, 1, 3] [2, 4, 5, 6, 7] [5, 6, 0, 7, 1, 2, 3, 4] (wr := [(a0_made, .inl (zI Z, 12, .inl (q7_made o0))), (a0_closed, .inl (zI Z, 256, .inl (q7_closed r6.2))), (a0_faces, .inl (zI Z, 256, .inl (q7_faces r6.2))), (a0_rankOf, .inl (zI Z, 256, .inl (q7_rankOf r6.2))), (a0_placeOf, .inl (zI Z, 256, .inl (q7_placeOf r6.2)))]) rfl rfl (by decide) (by decide) (by decide) [(a0, .inr (7, [.int (q7_thrown r11.2), .ref a0_buffer, .int (q7_length o0), .int (q7_at o0), .int (q7_from o0), .int (q7_kind o0), .int (q7_number o0), .int (q7_wrong o0), .ref a0_now, .ref a0_made, .ref a0_history, .ref a0_saved, .int (q7_entries r14), .int (q7_isSaved o0), .ref a0_closed, .ref a0_faces, .ref a0_rankOf, .ref a0_placeOf, .int (q7_faceMany r6.2), .int (q7_isLaid r14), .ref a0_counted, .ref a0_steps, .ref a0_onto, .ref a0_goes, .int (q7_found o0), .int (q7_images o0), .ref a0_firstImage, .int (q7_gathered o0)])), (a0_now, .inl (zI Z, 12, .inl (q7_now o0))), (a0_made, .inl (zI Z, 12, .inl (q7_made o0))), (a0_history, .inl (zI Z, 96, .inl (q7_history r14))), (a0_closed, .inl (zI Z, 256, .inl (q7_closed r6.2))), (a0_faces, .inl (zI Z, 256, .inl (q7_faces r6.2))), (a0_rankOf, .inl (zI Z, 256, .inl (q7_rankOf r6.2))), (a0_placeOf, .inl (zI Z, 256, .inl (q7_placeOf r6.2)))] rfl (by decide) (Nat.le_of_ble_eq_true rfl) (by rw [hR]; exact Nat.le_of_ble_eq_true rfl) (by rw [hR]; exact Nat.le_of_ble_eq_true rfl) ⟨by rw [hR]; exact Nat.le_of_ble_eq_true rfl, by rw [hR]; exact Nat.le_of_ble_eq_true rfl⟩ rfl dX7_cutOff_77 ?_
        refine g_aload_n C dX7_cutOff_80 rfl 0 rfl ?_
        refine g_get C 7 13 gin7 0 rfl rfl 8 (by decide) mw_5_93 rfl rfl dX7_cutOff_81 ?_
        refine g_iconst C 0 dX7_cutOff_84 (by decide) ?_
        refine g_iald C 1 rfl (by decide) dX7_cutOff_85 ?_
        refine g_iconst C 1 dX7_cutOff_86 (by decide) ?_
        refine g_isub C dX7_cutOff_87 ?_
        refine g_istore C dX7_cutOff_88 (by decide) [(4, .int (((q7_now o0) (ix 0)) - 1)), (0, .ref a0), (1, .int p1), (2, .int r6.1), (3, .int r8)] rfl ?_
        refine g_aload_n C dX7_cutOff_90 rfl 1 rfl ?_
        refine g_iload C dX7_cutOff_91 0 rfl ?_
        refine g_iload_n C dX7_cutOff_93 rfl 4 rfl ?_
        refine g_iadd C dX7_cutOff_94 ?_
        obtain ⟨r16, hr17, h⟩ := bd_of h
        refine g_callVv C (kX7_begin l Z a0 a0_buffer a0_now a0_made a0_history a0_saved a0_closed a0_faces a0_rankOf a0_placeOf a0_counted a0_steps a0_onto a0_goes a0_firstImage (s7_isLaid (s7_faceMany (s7_placeOf (s7_rankOf (s7_faces (s7_closed (s7_entries (s7_history (s7_thrown o0 (q7_thrown r11.2)) (q7_history r14)) (q7_entries r14)) (q7_closed r6.2)) (q7_faces r6.2)) (q7_rankOf r6.2)) (q7_placeOf r6.2)) (q7_faceMany r6.2)) (q7_isLaid r14)) ((((q7_now o0) (ix 0)) - 1) + r8) r16 hr17) 0 rfl (ci := 7) rfl rfl myX7_begin 123 mw_6_5 rfl [0, 2] [1, 3, 4, 5, 6, 7] [6, 0, 7, 1, 2, 3, 4, 5] (wr := [(a0_now, .inl (zI Z, 12, .inl (q7_now o0))), (a0_history, .inl (zI Z, 96, .inl (q7_history r14))), (a0_closed, .inl (zI Z, 256, .inl (q7_closed r6.2))), (a0_faces, .inl (zI Z, 256, .inl (q7_faces r6.2))), (a0_rankOf, .inl (zI Z, 256, .inl (q7_rankOf r6.2))), (a0_placeOf, .inl (zI Z, 256, .inl (q7_placeOf r6.2)))]) rfl rfl (by decide) (by decide) (by decide) [(a0, .inr (7, [.int (q7_thrown r11.2), .ref a0_buffer, .int (q7_length o0), .int (q7_at o0), .int (q7_from o0), .int (q7_kind o0), .int (q7_number o0), .int (q7_wrong o0), .ref a0_now, .ref a0_made, .ref a0_history, .ref a0_saved, .int (q7_entries r14), .int (q7_isSaved o0), .ref a0_closed, .ref a0_faces, .ref a0_rankOf, .ref a0_placeOf, .int (q7_faceMany r6.2), .int (q7_isLaid r14), .ref a0_counted, .ref a0_steps, .ref a0_onto, .ref a0_goes, .int (q7_found o0), .int (q7_images o0), .ref a0_firstImage, .int (q7_gathered o0)])), (a0_now, .inl (zI Z, 12, .inl (q7_now o0))), (a0_made, .inl (zI Z, 12, .inl (q7_made r16))), (a0_history, .inl (zI Z, 96, .inl (q7_history r14))), (a0_closed, .inl (zI Z, 256, .inl (q7_closed r6.2))), (a0_faces, .inl (zI Z, 256, .inl (q7_faces r6.2))), (a0_rankOf, .inl (zI Z, 256, .inl (q7_rankOf r6.2))), (a0_placeOf, .inl (zI Z, 256, .inl (q7_placeOf r6.2)))] rfl (by decide) (Nat.le_of_ble_eq_true rfl) (by rw [hR]; exact Nat.le_of_ble_eq_true rfl) (by rw [hR]; exact Nat.le_of_ble_eq_true rfl) ⟨by rw [hR]; exact Nat.le_of_ble_eq_true rfl, by rw [hR]; exact Nat.le_of_ble_eq_true rfl⟩ rfl dX7_cutOff_95 ?_
        refine g_iconst C 0 dX7_cutOff_98 (by decide) ?_
        refine g_istore C dX7_cutOff_99 (by decide) [(5, .int 0), (4, .int (((q7_now o0) (ix 0)) - 1)), (0, .ref a0), (1, .int p1), (2, .int r6.1), (3, .int r8)] rfl ?_
        refine g_lv [2, 3, 4, 5, 1, 0] [(0, .ref a0), (1, .int p1), (2, .int r6.1), (3, .int r8), (4, .int (((q7_now o0) (ix 0)) - 1)), (5, .int 0)] rfl ?_
        refine g_loop (lvf := fun v18 => [(0, .ref a0), (1, .int p1), (2, .int r6.1), (3, .int r8), (4, .int (((q7_now o0) (ix 0)) - 1)), (5, .int v18.1)]) (wsf := fun v18 => [(a0, .inr (7, [.int (q7_thrown r11.2), .ref a0_buffer, .int (q7_length o0), .int (q7_at o0), .int (q7_from o0), .int (q7_kind o0), .int (q7_number o0), .int (q7_wrong o0), .ref a0_now, .ref a0_made, .ref a0_history, .ref a0_saved, .int (q7_entries r14), .int (q7_isSaved o0), .ref a0_closed, .ref a0_faces, .ref a0_rankOf, .ref a0_placeOf, .int (q7_faceMany r6.2), .int (q7_isLaid r14), .ref a0_counted, .ref a0_steps, .ref a0_onto, .ref a0_goes, .int (q7_found o0), .int (q7_images o0), .ref a0_firstImage, .int (q7_gathered o0)])), (a0_now, .inl (zI Z, 12, .inl (q7_now o0))), (a0_made, .inl (zI Z, 12, .inl v18.2)), (a0_history, .inl (zI Z, 96, .inl (q7_history r14))), (a0_closed, .inl (zI Z, 256, .inl (q7_closed r6.2))), (a0_faces, .inl (zI Z, 256, .inl (q7_faces r6.2))), (a0_rankOf, .inl (zI Z, 256, .inl (q7_rankOf r6.2))), (a0_placeOf, .inl (zI Z, 256, .inl (q7_placeOf r6.2)))]) h (fun v18 y1 h hk1 hx1 => ?_)
        refine g_eq (lv1 := [(0, .ref a0), (1, .int p1), (2, .int r6.1), (3, .int r8), (4, .int (((q7_now o0) (ix 0)) - 1)), (5, .int v18.1)]) (st1 := []) (ws1 := [(a0, .inr (7, [.int (q7_thrown r11.2), .ref a0_buffer, .int (q7_length o0), .int (q7_at o0), .int (q7_from o0), .int (q7_kind o0), .int (q7_number o0), .int (q7_wrong o0), .ref a0_now, .ref a0_made, .ref a0_history, .ref a0_saved, .int (q7_entries r14), .int (q7_isSaved o0), .ref a0_closed, .ref a0_faces, .ref a0_rankOf, .ref a0_placeOf, .int (q7_faceMany r6.2), .int (q7_isLaid r14), .ref a0_counted, .ref a0_steps, .ref a0_onto, .ref a0_goes, .int (q7_found o0), .int (q7_images o0), .ref a0_firstImage, .int (q7_gathered o0)])), (a0_now, .inl (zI Z, 12, .inl (q7_now o0))), (a0_made, .inl (zI Z, 12, .inl v18.2)), (a0_history, .inl (zI Z, 96, .inl (q7_history r14))), (a0_closed, .inl (zI Z, 256, .inl (q7_closed r6.2))), (a0_faces, .inl (zI Z, 256, .inl (q7_faces r6.2))), (a0_rankOf, .inl (zI Z, 256, .inl (q7_rankOf r6.2))), (a0_placeOf, .inl (zI Z, 256, .inl (q7_placeOf r6.2)))]) rfl rfl rfl rfl ?_
        unfold fX7_cutOff_L101 at h
        refine g_iload C dX7_cutOff_101 5 rfl ?_
        refine g_aload_n C dX7_cutOff_103 rfl 0 rfl ?_
        refine g_get C 7 13 gin7 0 rfl rfl 8 (by decide) mw_5_93 rfl rfl dX7_cutOff_104 ?_
        refine g_iconst C 1 dX7_cutOff_107 (by decide) ?_
        refine g_iald C 1 rfl (by decide) dX7_cutOff_108 ?_
        refine g_icmp_ge C 207 dX7_cutOff_109 (by decide) (fun c19 => ?_) (fun c19 => ?_)
        · replace h := it_t c19 h
          obtain ⟨r20, h, hy⟩ := ex_of h
          rw [hx1 r20 hy] at h
          refine g_aload_n C dX7_cutOff_207 rfl 0 rfl ?_
          refine g_iload C dX7_cutOff_208 4 rfl ?_
          refine g_iload_n C dX7_cutOff_210 rfl 3 rfl ?_
          refine g_iadd C dX7_cutOff_211 ?_
          obtain ⟨r21, hr22, h⟩ := bd_of h
          refine g_callSi C (kX7_every l Z ((((q7_now o0) (ix 0)) - 1) + r8) r21 hr22) myX7_every 127 mw_6_14 rfl [] [0, 1, 2, 3, 4, 5, 6, 7] [0, 1, 2, 3, 4, 5, 6, 7] (wr := [(a0, .inr (7, [.int (q7_thrown r11.2), .ref a0_buffer, .int (q7_length o0), .int (q7_at o0), .int (q7_from o0), .int (q7_kind o0), .int (q7_number o0), .int (q7_wrong o0), .ref a0_now, .ref a0_made, .ref a0_history, .ref a0_saved, .int (q7_entries r14), .int (q7_isSaved o0), .ref a0_closed, .ref a0_faces, .ref a0_rankOf, .ref a0_placeOf, .int (q7_faceMany r6.2), .int (q7_isLaid r14), .ref a0_counted, .ref a0_steps, .ref a0_onto, .ref a0_goes, .int (q7_found o0), .int (q7_images o0), .ref a0_firstImage, .int (q7_gathered o0)])), (a0_now, .inl (zI Z, 12, .inl (q7_now o0))), (a0_made, .inl (zI Z, 12, .inl v18.2)), (a0_history, .inl (zI Z, 96, .inl (q7_history r14))), (a0_closed, .inl (zI Z, 256, .inl (q7_closed r6.2))), (a0_faces, .inl (zI Z, 256, .inl (q7_faces r6.2))), (a0_rankOf, .inl (zI Z, 256, .inl (q7_rankOf r6.2))), (a0_placeOf, .inl (zI Z, 256, .inl (q7_placeOf r6.2)))]) rfl rfl (by decide) (by decide) (by decide) [(a0, .inr (7, [.int (q7_thrown r11.2), .ref a0_buffer, .int (q7_length o0), .int (q7_at o0), .int (q7_from o0), .int (q7_kind o0), .int (q7_number o0), .int (q7_wrong o0), .ref a0_now, .ref a0_made, .ref a0_history, .ref a0_saved, .int (q7_entries r14), .int (q7_isSaved o0), .ref a0_closed, .ref a0_faces, .ref a0_rankOf, .ref a0_placeOf, .int (q7_faceMany r6.2), .int (q7_isLaid r14), .ref a0_counted, .ref a0_steps, .ref a0_onto, .ref a0_goes, .int (q7_found o0), .int (q7_images o0), .ref a0_firstImage, .int (q7_gathered o0)])), (a0_now, .inl (zI Z, 12, .inl (q7_now o0))), (a0_made, .inl (zI Z, 12, .inl v18.2)), (a0_history, .inl (zI Z, 96, .inl (q7_history r14))), (a0_closed, .inl (zI Z, 256, .inl (q7_closed r6.2))), (a0_faces, .inl (zI Z, 256, .inl (q7_faces r6.2))), (a0_rankOf, .inl (zI Z, 256, .inl (q7_rankOf r6.2))), (a0_placeOf, .inl (zI Z, 256, .inl (q7_placeOf r6.2)))] rfl (by decide) (Nat.le_of_ble_eq_true rfl) (by rw [hR]; exact Nat.le_of_ble_eq_true rfl) (by rw [hR]; exact Nat.le_of_ble_eq_true rfl) ⟨by rw [hR]; exact Nat.le_of_ble_eq_true rfl, by rw [hR]; exact Nat.le_of_ble_eq_true rfl⟩ rfl dX7_cutOff_212 ?_
          refine g_iload C dX7_cutOff_215 4 rfl ?_
          obtain ⟨r23, hr24, h⟩ := bd_of h
          refine g_callSi C (kX7_every l Z (((q7_now o0) (ix 0)) - 1) r23 hr24) myX7_every 127 mw_6_14 rfl [] [0, 1, 2, 3, 4, 5, 6, 7] [0, 1, 2, 3, 4, 5, 6, 7] (wr := [(a0, .inr (7, [.int (q7_thrown r11.2), .ref a0_buffer, .int (q7_length o0), .int (q7_at o0), .int (q7_from o0), .int (q7_kind o0), .int (q7_number o0), .int (q7_wrong o0), .ref a0_now, .ref a0_made, .ref a0_history, .ref a0_saved, .int (q7_entries r14), .int (q7_isSaved o0), .ref a0_closed, .ref a0_faces, .ref a0_rankOf, .ref a0_placeOf, .int (q7_faceMany r6.2), .int (q7_isLaid r14), .ref a0_counted, .ref a0_steps, .ref a0_onto, .ref a0_goes, .int (q7_found o0), .int (q7_images o0), .ref a0_firstImage, .int (q7_gathered o0)])), (a0_now, .inl (zI Z, 12, .inl (q7_now o0))), (a0_made, .inl (zI Z, 12, .inl v18.2)), (a0_history, .inl (zI Z, 96, .inl (q7_history r14))), (a0_closed, .inl (zI Z, 256, .inl (q7_closed r6.2))), (a0_faces, .inl (zI Z, 256, .inl (q7_faces r6.2))), (a0_rankOf, .inl (zI Z, 256, .inl (q7_rankOf r6.2))), (a0_placeOf, .inl (zI Z, 256, .inl (q7_placeOf r6.2)))]) rfl rfl (by decide) (by decide) (by decide) [(a0, .inr (7, [.int (q7_thrown r11.2), .ref a0_buffer, .int (q7_length o0), .int (q7_at o0), .int (q7_from o0), .int (q7_kind o0), .int (q7_number o0), .int (q7_wrong o0), .ref a0_now, .ref a0_made, .ref a0_history, .ref a0_saved, .int (q7_entries r14), .int (q7_isSaved o0), .ref a0_closed, .ref a0_faces, .ref a0_rankOf, .ref a0_placeOf, .int (q7_faceMany r6.2), .int (q7_isLaid r14), .ref a0_counted, .ref a0_steps, .ref a0_onto, .ref a0_goes, .int (q7_found o0), .int (q7_images o0), .ref a0_firstImage, .int (q7_gathered o0)])), (a0_now, .inl (zI Z, 12, .inl (q7_now o0))), (a0_made, .inl (zI Z, 12, .inl v18.2)), (a0_history, .inl (zI Z, 96, .inl (q7_history r14))), (a0_closed, .inl (zI Z, 256, .inl (q7_closed r6.2))), (a0_faces, .inl (zI Z, 256, .inl (q7_faces r6.2))), (a0_rankOf, .inl (zI Z, 256, .inl (q7_rankOf r6.2))), (a0_placeOf, .inl (zI Z, 256, .inl (q7_placeOf r6.2)))] rfl (by decide) (Nat.le_of_ble_eq_true rfl) (by rw [hR]; exact Nat.le_of_ble_eq_true rfl) (by rw [hR]; exact Nat.le_of_ble_eq_true rfl) ⟨by rw [hR]; exact Nat.le_of_ble_eq_true rfl, by rw [hR]; exact Nat.le_of_ble_eq_true rfl⟩ rfl dX7_cutOff_217 ?_
          refine g_iconst C (-1) dX7_cutOff_220 (by decide) ?_
          refine g_ixor C dX7_cutOff_221 ?_
          refine g_iand C dX7_cutOff_222 ?_
          obtain ⟨r25, hr26, h⟩ := bd_of h
          refine g_callVv C (kX7_add l Z a0 a0_buffer a0_now a0_made a0_history a0_saved a0_closed a0_faces a0_rankOf a0_placeOf a0_counted a0_steps a0_onto a0_goes a0_firstImage (s7_isLaid (s7_faceMany (s7_placeOf (s7_rankOf (s7_faces (s7_closed (s7_entries (s7_history (s7_made (s7_thrown o0 (q7_thrown r11.2)) v18.2) (q7_history r14)) (q7_entries r14)) (q7_closed r6.2)) (q7_faces r6.2)) (q7_rankOf r6.2)) (q7_placeOf r6.2)) (q7_faceMany r6.2)) (q7_isLaid r14)) (r21 &&& (r23 ^^^ (-1))) r25 hr26) 0 rfl (ci := 7) rfl rfl myX7_add 130 mw_6_17 rfl [0, 2] [1, 3, 4, 5, 6, 7] [6, 0, 7, 1, 2, 3, 4, 5] (wr := [(a0_now, .inl (zI Z, 12, .inl (q7_now o0))), (a0_history, .inl (zI Z, 96, .inl (q7_history r14))), (a0_closed, .inl (zI Z, 256, .inl (q7_closed r6.2))), (a0_faces, .inl (zI Z, 256, .inl (q7_faces r6.2))), (a0_rankOf, .inl (zI Z, 256, .inl (q7_rankOf r6.2))), (a0_placeOf, .inl (zI Z, 256, .inl (q7_placeOf r6.2)))]) rfl rfl (by decide) (by decide) (by decide) [(a0, .inr (7, [.int (q7_thrown r11.2), .ref a0_buffer, .int (q7_length o0), .int (q7_at o0), .int (q7_from o0), .int (q7_kind o0), .int (q7_number o0), .int (q7_wrong o0), .ref a0_now, .ref a0_made, .ref a0_history, .ref a0_saved, .int (q7_entries r14), .int (q7_isSaved o0), .ref a0_closed, .ref a0_faces, .ref a0_rankOf, .ref a0_placeOf, .int (q7_faceMany r6.2), .int (q7_isLaid r14), .ref a0_counted, .ref a0_steps, .ref a0_onto, .ref a0_goes, .int (q7_found o0), .int (q7_images o0), .ref a0_firstImage, .int (q7_gathered o0)])), (a0_now, .inl (zI Z, 12, .inl (q7_now o0))), (a0_made, .inl (zI Z, 12, .inl (q7_made r25))), (a0_history, .inl (zI Z, 96, .inl (q7_history r14))), (a0_closed, .inl (zI Z, 256, .inl (q7_closed r6.2))), (a0_faces, .inl (zI Z, 256, .inl (q7_faces r6.2))), (a0_rankOf, .inl (zI Z, 256, .inl (q7_rankOf r6.2))), (a0_placeOf, .inl (zI Z, 256, .inl (q7_placeOf r6.2)))] rfl (by decide) (Nat.le_of_ble_eq_true rfl) (by rw [hR]; exact Nat.le_of_ble_eq_true rfl) (by rw [hR]; exact Nat.le_of_ble_eq_true rfl) ⟨by rw [hR]; exact Nat.le_of_ble_eq_true rfl, by rw [hR]; exact Nat.le_of_ble_eq_true rfl⟩ rfl dX7_cutOff_223 ?_
          refine g_aload_n C dX7_cutOff_226 rfl 0 rfl ?_
          obtain ⟨r27, hr28, h⟩ := bd_of h
          refine g_callVv C (kX7_takeMade l Z a0 a0_buffer a0_now a0_made a0_history a0_saved a0_closed a0_faces a0_rankOf a0_placeOf a0_counted a0_steps a0_onto a0_goes a0_firstImage (s7_isLaid (s7_faceMany (s7_placeOf (s7_rankOf (s7_faces (s7_closed (s7_entries (s7_history (s7_made (s7_thrown o0 (q7_thrown r11.2)) (q7_made r25)) (q7_history r14)) (q7_entries r14)) (q7_closed r6.2)) (q7_faces r6.2)) (q7_rankOf r6.2)) (q7_placeOf r6.2)) (q7_faceMany r6.2)) (q7_isLaid r14)) r27 hr28) 0 rfl (ci := 7) rfl rfl myX7_takeMade 187 mw_6_52 rfl [0, 1, 2] [3, 4, 5, 6, 7] [5, 6, 7, 0, 1, 2, 3, 4] (wr := [(a0_history, .inl (zI Z, 96, .inl (q7_history r14))), (a0_closed, .inl (zI Z, 256, .inl (q7_closed r6.2))), (a0_faces, .inl (zI Z, 256, .inl (q7_faces r6.2))), (a0_rankOf, .inl (zI Z, 256, .inl (q7_rankOf r6.2))), (a0_placeOf, .inl (zI Z, 256, .inl (q7_placeOf r6.2)))]) rfl rfl (by decide) (by decide) (by decide) [(a0, .inr (7, [.int (q7_thrown r11.2), .ref a0_buffer, .int (q7_length o0), .int (q7_at o0), .int (q7_from o0), .int (q7_kind o0), .int (q7_number o0), .int (q7_wrong o0), .ref a0_now, .ref a0_made, .ref a0_history, .ref a0_saved, .int (q7_entries r14), .int (q7_isSaved o0), .ref a0_closed, .ref a0_faces, .ref a0_rankOf, .ref a0_placeOf, .int (q7_faceMany r6.2), .int (q7_isLaid r27), .ref a0_counted, .ref a0_steps, .ref a0_onto, .ref a0_goes, .int (q7_found o0), .int (q7_images o0), .ref a0_firstImage, .int (q7_gathered o0)])), (a0_now, .inl (zI Z, 12, .inl (q7_now r27))), (a0_made, .inl (zI Z, 12, .inl (q7_made r25))), (a0_history, .inl (zI Z, 96, .inl (q7_history r14))), (a0_closed, .inl (zI Z, 256, .inl (q7_closed r6.2))), (a0_faces, .inl (zI Z, 256, .inl (q7_faces r6.2))), (a0_rankOf, .inl (zI Z, 256, .inl (q7_rankOf r6.2))), (a0_placeOf, .inl (zI Z, 256, .inl (q7_placeOf r6.2)))] rfl (by decide) (Nat.le_of_ble_eq_true rfl) (by rw [hR]; exact Nat.le_of_ble_eq_true rfl) (by rw [hR]; exact Nat.le_of_ble_eq_true rfl) ⟨by rw [hR]; exact Nat.le_of_ble_eq_true rfl, by rw [hR]; exact Nat.le_of_ble_eq_true rfl⟩ rfl dX7_cutOff_227 ?_
          refine g_aload_n C dX7_cutOff_230 rfl 0 rfl ?_
          refine g_get C 7 13 gin7 0 rfl rfl 8 (by decide) mw_5_93 rfl rfl dX7_cutOff_231 ?_
          refine g_iconst C 0 dX7_cutOff_234 (by decide) ?_
          refine g_iald C 1 rfl (by decide) dX7_cutOff_235 ?_
          obtain rfl := Option.some.inj h
          subst hQ
          exact g_iret C rfl hr hlk dX7_cutOff_236 [0, 1, 2, 3, 4, 5, 6, 7] rfl (by decide)
        · replace h := it_f c19 h
          refine g_aload_n C dX7_cutOff_112 rfl 0 rfl ?_
          refine g_get C 7 13 gin7 0 rfl rfl 8 (by decide) mw_5_93 rfl rfl dX7_cutOff_113 ?_
          refine g_iconst C 2 dX7_cutOff_116 (by decide) ?_
          refine g_iload C dX7_cutOff_117 5 rfl ?_
          refine g_iadd C dX7_cutOff_119 ?_
          obtain ⟨hi29, h⟩ := ck_of h
          refine g_iald C 1 rfl hi29 dX7_cutOff_120 ?_
          refine g_istore C dX7_cutOff_121 (by decide) [(6, .int ((q7_now o0) (ix (2 + v18.1)))), (0, .ref a0), (1, .int p1), (2, .int r6.1), (3, .int r8), (4, .int (((q7_now o0) (ix 0)) - 1)), (5, .int v18.1)] rfl ?_
          refine g_iload C dX7_cutOff_123 0 rfl ?_
          refine g_iload_n C dX7_cutOff_125 rfl 2 rfl ?_
          obtain ⟨r30, hr31, h⟩ := bd_of h
          refine g_callSi C (kX7_without l Z ((q7_now o0) (ix (2 + v18.1))) p1 r30 hr31) myX7_without 254 mw_6_167 rfl [] [0, 1, 2, 3, 4, 5, 6, 7] [0, 1, 2, 3, 4, 5, 6, 7] (wr := [(a0, .inr (7, [.int (q7_thrown r11.2), .ref a0_buffer, .int (q7_length o0), .int (q7_at o0), .int (q7_from o0), .int (q7_kind o0), .int (q7_number o0), .int (q7_wrong o0), .ref a0_now, .ref a0_made, .ref a0_history, .ref a0_saved, .int (q7_entries r14), .int (q7_isSaved o0), .ref a0_closed, .ref a0_faces, .ref a0_rankOf, .ref a0_placeOf, .int (q7_faceMany r6.2), .int (q7_isLaid r14), .ref a0_counted, .ref a0_steps, .ref a0_onto, .ref a0_goes, .int (q7_found o0), .int (q7_images o0), .ref a0_firstImage, .int (q7_gathered o0)])), (a0_now, .inl (zI Z, 12, .inl (q7_now o0))), (a0_made, .inl (zI Z, 12, .inl v18.2)), (a0_history, .inl (zI Z, 96, .inl (q7_history r14))), (a0_closed, .inl (zI Z, 256, .inl (q7_closed r6.2))), (a0_faces, .inl (zI Z, 256, .inl (q7_faces r6.2))), (a0_rankOf, .inl (zI Z, 256, .inl (q7_rankOf r6.2))), (a0_placeOf, .inl (zI Z, 256, .inl (q7_placeOf r6.2)))]) rfl rfl (by decide) (by decide) (by decide) [(a0, .inr (7, [.int (q7_thrown r11.2), .ref a0_buffer, .int (q7_length o0), .int (q7_at o0), .int (q7_from o0), .int (q7_kind o0), .int (q7_number o0), .int (q7_wrong o0), .ref a0_now, .ref a0_made, .ref a0_history, .ref a0_saved, .int (q7_entries r14), .int (q7_isSaved o0), .ref a0_closed, .ref a0_faces, .ref a0_rankOf, .ref a0_placeOf, .int (q7_faceMany r6.2), .int (q7_isLaid r14), .ref a0_counted, .ref a0_steps, .ref a0_onto, .ref a0_goes, .int (q7_found o0), .int (q7_images o0), .ref a0_firstImage, .int (q7_gathered o0)])), (a0_now, .inl (zI Z, 12, .inl (q7_now o0))), (a0_made, .inl (zI Z, 12, .inl v18.2)), (a0_history, .inl (zI Z, 96, .inl (q7_history r14))), (a0_closed, .inl (zI Z, 256, .inl (q7_closed r6.2))), (a0_faces, .inl (zI Z, 256, .inl (q7_faces r6.2))), (a0_rankOf, .inl (zI Z, 256, .inl (q7_rankOf r6.2))), (a0_placeOf, .inl (zI Z, 256, .inl (q7_placeOf r6.2)))] rfl (by decide) (Nat.le_of_ble_eq_true rfl) (by rw [hR]; exact Nat.le_of_ble_eq_true rfl) (by rw [hR]; exact Nat.le_of_ble_eq_true rfl) ⟨by rw [hR]; exact Nat.le_of_ble_eq_true rfl, by rw [hR]; exact Nat.le_of_ble_eq_true rfl⟩ rfl dX7_cutOff_126 ?_
          refine g_istore C dX7_cutOff_129 (by decide) [(7, .int r30), (6, .int ((q7_now o0) (ix (2 + v18.1)))), (0, .ref a0), (1, .int p1), (2, .int r6.1), (3, .int r8), (4, .int (((q7_now o0) (ix 0)) - 1)), (5, .int v18.1)] rfl ?_
          refine g_iload C dX7_cutOff_131 6 rfl ?_
          refine g_istore C dX7_cutOff_133 (by decide) [(8, .int (((q7_now o0) (ix 0)) - 1)), (7, .int r30), (6, .int ((q7_now o0) (ix (2 + v18.1)))), (0, .ref a0), (1, .int p1), (2, .int r6.1), (3, .int r8), (4, .int (((q7_now o0) (ix 0)) - 1)), (5, .int v18.1)] rfl ?_
          refine g_iconst C 0 dX7_cutOff_135 (by decide) ?_
          refine g_istore C dX7_cutOff_136 (by decide) [(9, .int 0), (8, .int (((q7_now o0) (ix 0)) - 1)), (7, .int r30), (6, .int ((q7_now o0) (ix (2 + v18.1)))), (0, .ref a0), (1, .int p1), (2, .int r6.1), (3, .int r8), (4, .int (((q7_now o0) (ix 0)) - 1)), (5, .int v18.1)] rfl ?_
          refine g_lv [4, 5, 6, 7, 8, 9, 3, 2, 1, 0] [(0, .ref a0), (1, .int p1), (2, .int r6.1), (3, .int r8), (4, .int (((q7_now o0) (ix 0)) - 1)), (5, .int v18.1), (6, .int ((q7_now o0) (ix (2 + v18.1)))), (7, .int r30), (8, .int (((q7_now o0) (ix 0)) - 1)), (9, .int 0)] rfl ?_
          refine g_loop (lvf := fun v32 => [(0, .ref a0), (1, .int p1), (2, .int r6.1), (3, .int r8), (4, .int (((q7_now o0) (ix 0)) - 1)), (5, .int v18.1), (6, .int ((q7_now o0) (ix (2 + v18.1)))), (7, .int v32.1), (8, .int v32.2.1), (9, .int v32.2.2)]) (wsf := fun v32 => [(a0, .inr (7, [.int (q7_thrown r11.2), .ref a0_buffer, .int (q7_length o0), .int (q7_at o0), .int (q7_from o0), .int (q7_kind o0), .int (q7_number o0), .int (q7_wrong o0), .ref a0_now, .ref a0_made, .ref a0_history, .ref a0_saved, .int (q7_entries r14), .int (q7_isSaved o0), .ref a0_closed, .ref a0_faces, .ref a0_rankOf, .ref a0_placeOf, .int (q7_faceMany r6.2), .int (q7_isLaid r14), .ref a0_counted, .ref a0_steps, .ref a0_onto, .ref a0_goes, .int (q7_found o0), .int (q7_images o0), .ref a0_firstImage, .int (q7_gathered o0)])), (a0_now, .inl (zI Z, 12, .inl (q7_now o0))), (a0_made, .inl (zI Z, 12, .inl v18.2)), (a0_history, .inl (zI Z, 96, .inl (q7_history r14))), (a0_closed, .inl (zI Z, 256, .inl (q7_closed r6.2))), (a0_faces, .inl (zI Z, 256, .inl (q7_faces r6.2))), (a0_rankOf, .inl (zI Z, 256, .inl (q7_rankOf r6.2))), (a0_placeOf, .inl (zI Z, 256, .inl (q7_placeOf r6.2)))]) h (fun v32 y2 h hk2 hx2 => ?_)
          refine g_eq (lv1 := [(0, .ref a0), (1, .int p1), (2, .int r6.1), (3, .int r8), (4, .int (((q7_now o0) (ix 0)) - 1)), (5, .int v18.1), (6, .int ((q7_now o0) (ix (2 + v18.1)))), (7, .int v32.1), (8, .int v32.2.1), (9, .int v32.2.2)]) (st1 := []) (ws1 := [(a0, .inr (7, [.int (q7_thrown r11.2), .ref a0_buffer, .int (q7_length o0), .int (q7_at o0), .int (q7_from o0), .int (q7_kind o0), .int (q7_number o0), .int (q7_wrong o0), .ref a0_now, .ref a0_made, .ref a0_history, .ref a0_saved, .int (q7_entries r14), .int (q7_isSaved o0), .ref a0_closed, .ref a0_faces, .ref a0_rankOf, .ref a0_placeOf, .int (q7_faceMany r6.2), .int (q7_isLaid r14), .ref a0_counted, .ref a0_steps, .ref a0_onto, .ref a0_goes, .int (q7_found o0), .int (q7_images o0), .ref a0_firstImage, .int (q7_gathered o0)])), (a0_now, .inl (zI Z, 12, .inl (q7_now o0))), (a0_made, .inl (zI Z, 12, .inl v18.2)), (a0_history, .inl (zI Z, 96, .inl (q7_history r14))), (a0_closed, .inl (zI Z, 256, .inl (q7_closed r6.2))), (a0_faces, .inl (zI Z, 256, .inl (q7_faces r6.2))), (a0_rankOf, .inl (zI Z, 256, .inl (q7_rankOf r6.2))), (a0_placeOf, .inl (zI Z, 256, .inl (q7_placeOf r6.2)))]) rfl rfl rfl rfl ?_
          unfold fX7_cutOff_L138 at h
          refine g_iload C dX7_cutOff_138 9 rfl ?_
          refine g_bipush C 8 dX7_cutOff_140 (by decide) ?_
          refine g_icmp_ge C 195 dX7_cutOff_142 (by decide) (fun c33 => ?_) (fun c33 => ?_)
          · replace h := it_t c33 h
            obtain ⟨r34, h, hy⟩ := ex_of h
            rw [hx2 r34 hy] at h
            refine g_aload_n C dX7_cutOff_195 rfl 0 rfl ?_
            refine g_iload C dX7_cutOff_196 7 rfl ?_
            obtain ⟨r35, hr36, h⟩ := bd_of h
            refine g_callVv C (kX7_add l Z a0 a0_buffer a0_now a0_made a0_history a0_saved a0_closed a0_faces a0_rankOf a0_placeOf a0_counted a0_steps a0_onto a0_goes a0_firstImage (s7_isLaid (s7_faceMany (s7_placeOf (s7_rankOf (s7_faces (s7_closed (s7_entries (s7_history (s7_made (s7_thrown o0 (q7_thrown r11.2)) v18.2) (q7_history r14)) (q7_entries r14)) (q7_closed r6.2)) (q7_faces r6.2)) (q7_rankOf r6.2)) (q7_placeOf r6.2)) (q7_faceMany r6.2)) (q7_isLaid r14)) v32.1 r35 hr36) 0 rfl (ci := 7) rfl rfl myX7_add 130 mw_6_17 rfl [0, 2] [1, 3, 4, 5, 6, 7] [6, 0, 7, 1, 2, 3, 4, 5] (wr := [(a0_now, .inl (zI Z, 12, .inl (q7_now o0))), (a0_history, .inl (zI Z, 96, .inl (q7_history r14))), (a0_closed, .inl (zI Z, 256, .inl (q7_closed r6.2))), (a0_faces, .inl (zI Z, 256, .inl (q7_faces r6.2))), (a0_rankOf, .inl (zI Z, 256, .inl (q7_rankOf r6.2))), (a0_placeOf, .inl (zI Z, 256, .inl (q7_placeOf r6.2)))]) rfl rfl (by decide) (by decide) (by decide) [(a0, .inr (7, [.int (q7_thrown r11.2), .ref a0_buffer, .int (q7_length o0), .int (q7_at o0), .int (q7_from o0), .int (q7_kind o0), .int (q7_number o0), .int (q7_wrong o0), .ref a0_now, .ref a0_made, .ref a0_history, .ref a0_saved, .int (q7_entries r14), .int (q7_isSaved o0), .ref a0_closed, .ref a0_faces, .ref a0_rankOf, .ref a0_placeOf, .int (q7_faceMany r6.2), .int (q7_isLaid r14), .ref a0_counted, .ref a0_steps, .ref a0_onto, .ref a0_goes, .int (q7_found o0), .int (q7_images o0), .ref a0_firstImage, .int (q7_gathered o0)])), (a0_now, .inl (zI Z, 12, .inl (q7_now o0))), (a0_made, .inl (zI Z, 12, .inl (q7_made r35))), (a0_history, .inl (zI Z, 96, .inl (q7_history r14))), (a0_closed, .inl (zI Z, 256, .inl (q7_closed r6.2))), (a0_faces, .inl (zI Z, 256, .inl (q7_faces r6.2))), (a0_rankOf, .inl (zI Z, 256, .inl (q7_rankOf r6.2))), (a0_placeOf, .inl (zI Z, 256, .inl (q7_placeOf r6.2)))] rfl (by decide) (Nat.le_of_ble_eq_true rfl) (by rw [hR]; exact Nat.le_of_ble_eq_true rfl) (by rw [hR]; exact Nat.le_of_ble_eq_true rfl) ⟨by rw [hR]; exact Nat.le_of_ble_eq_true rfl, by rw [hR]; exact Nat.le_of_ble_eq_true rfl⟩ rfl dX7_cutOff_198 ?_
            refine g_iinc C (v18.1 + 1) dX7_cutOff_201 5 rfl rfl (by decide) [(5, .int (v18.1 + 1)), (0, .ref a0), (1, .int p1), (2, .int r6.1), (3, .int r8), (4, .int (((q7_now o0) (ix 0)) - 1)), (6, .int ((q7_now o0) (ix (2 + v18.1)))), (7, .int v32.1), (8, .int v32.2.1), (9, .int v32.2.2)] rfl ?_
            refine g_goto C 101 dX7_cutOff_204 (by decide) ?_
            refine g_lv [1, 2, 3, 4, 5, 0] [(0, .ref a0), (1, .int p1), (2, .int r6.1), (3, .int r8), (4, .int (((q7_now o0) (ix 0)) - 1)), (5, .int (v18.1 + 1))] rfl ?_
            exact hk1 ((v18.1 + 1), (q7_made r35)) (Option.some.inj h).symm
          · replace h := it_f c33 h
            refine g_iload_n C dX7_cutOff_145 rfl 2 rfl ?_
            refine g_iload C dX7_cutOff_146 9 rfl ?_
            obtain ⟨r37, hr38, h⟩ := bd_of h
            refine g_callSi C (kX7_has l Z r6.1 v32.2.2 r37 hr38) myX7_has 165 mw_6_45 rfl [] [0, 1, 2, 3, 4, 5, 6, 7] [0, 1, 2, 3, 4, 5, 6, 7] (wr := [(a0, .inr (7, [.int (q7_thrown r11.2), .ref a0_buffer, .int (q7_length o0), .int (q7_at o0), .int (q7_from o0), .int (q7_kind o0), .int (q7_number o0), .int (q7_wrong o0), .ref a0_now, .ref a0_made, .ref a0_history, .ref a0_saved, .int (q7_entries r14), .int (q7_isSaved o0), .ref a0_closed, .ref a0_faces, .ref a0_rankOf, .ref a0_placeOf, .int (q7_faceMany r6.2), .int (q7_isLaid r14), .ref a0_counted, .ref a0_steps, .ref a0_onto, .ref a0_goes, .int (q7_found o0), .int (q7_images o0), .ref a0_firstImage, .int (q7_gathered o0)])), (a0_now, .inl (zI Z, 12, .inl (q7_now o0))), (a0_made, .inl (zI Z, 12, .inl v18.2)), (a0_history, .inl (zI Z, 96, .inl (q7_history r14))), (a0_closed, .inl (zI Z, 256, .inl (q7_closed r6.2))), (a0_faces, .inl (zI Z, 256, .inl (q7_faces r6.2))), (a0_rankOf, .inl (zI Z, 256, .inl (q7_rankOf r6.2))), (a0_placeOf, .inl (zI Z, 256, .inl (q7_placeOf r6.2)))]) rfl rfl (by decide) (by decide) (by decide) [(a0, .inr (7, [.int (q7_thrown r11.2), .ref a0_buffer, .int (q7_length o0), .int (q7_at o0), .int (q7_from o0), .int (q7_kind o0), .int (q7_number o0), .int (q7_wrong o0), .ref a0_now, .ref a0_made, .ref a0_history, .ref a0_saved, .int (q7_entries r14), .int (q7_isSaved o0), .ref a0_closed, .ref a0_faces, .ref a0_rankOf, .ref a0_placeOf, .int (q7_faceMany r6.2), .int (q7_isLaid r14), .ref a0_counted, .ref a0_steps, .ref a0_onto, .ref a0_goes, .int (q7_found o0), .int (q7_images o0), .ref a0_firstImage, .int (q7_gathered o0)])), (a0_now, .inl (zI Z, 12, .inl (q7_now o0))), (a0_made, .inl (zI Z, 12, .inl v18.2)), (a0_history, .inl (zI Z, 96, .inl (q7_history r14))), (a0_closed, .inl (zI Z, 256, .inl (q7_closed r6.2))), (a0_faces, .inl (zI Z, 256, .inl (q7_faces r6.2))), (a0_rankOf, .inl (zI Z, 256, .inl (q7_rankOf r6.2))), (a0_placeOf, .inl (zI Z, 256, .inl (q7_placeOf r6.2)))] rfl (by decide) (Nat.le_of_ble_eq_true rfl) (by rw [hR]; exact Nat.le_of_ble_eq_true rfl) (by rw [hR]; exact Nat.le_of_ble_eq_true rfl) ⟨by rw [hR]; exact Nat.le_of_ble_eq_true rfl, by rw [hR]; exact Nat.le_of_ble_eq_true rfl⟩ rfl dX7_cutOff_148 ?_
            refine g_if_eq C 189 dX7_cutOff_151 (by decide) (fun c39 => ?_) (fun c39 => ?_)
            · replace h := it_t c39 h
              refine g_iinc C (v32.2.2 + 1) dX7_cutOff_189 9 rfl rfl (by decide) [(9, .int (v32.2.2 + 1)), (0, .ref a0), (1, .int p1), (2, .int r6.1), (3, .int r8), (4, .int (((q7_now o0) (ix 0)) - 1)), (5, .int v18.1), (6, .int ((q7_now o0) (ix (2 + v18.1)))), (7, .int v32.1), (8, .int v32.2.1)] rfl ?_
              refine g_goto C 138 dX7_cutOff_192 (by decide) ?_
              refine g_lv [1, 2, 3, 4, 5, 6, 7, 8, 9, 0] [(0, .ref a0), (1, .int p1), (2, .int r6.1), (3, .int r8), (4, .int (((q7_now o0) (ix 0)) - 1)), (5, .int v18.1), (6, .int ((q7_now o0) (ix (2 + v18.1)))), (7, .int v32.1), (8, .int v32.2.1), (9, .int (v32.2.2 + 1))] rfl ?_
              exact hk2 (v32.1, v32.2.1, (v32.2.2 + 1)) (Option.some.inj h).symm
            · replace h := it_f c39 h
              refine g_iload C dX7_cutOff_154 7 rfl ?_
              refine g_iload C dX7_cutOff_156 6 rfl ?_
              refine g_iload_n C dX7_cutOff_158 rfl 1 rfl ?_
              obtain ⟨r40, hr41, h⟩ := bd_of h
              refine g_callSi C (kX7_has l Z ((q7_now o0) (ix (2 + v18.1))) p1 r40 hr41) myX7_has 165 mw_6_45 rfl [] [0, 1, 2, 3, 4, 5, 6, 7] [0, 1, 2, 3, 4, 5, 6, 7] (wr := [(a0, .inr (7, [.int (q7_thrown r11.2), .ref a0_buffer, .int (q7_length o0), .int (q7_at o0), .int (q7_from o0), .int (q7_kind o0), .int (q7_number o0), .int (q7_wrong o0), .ref a0_now, .ref a0_made, .ref a0_history, .ref a0_saved, .int (q7_entries r14), .int (q7_isSaved o0), .ref a0_closed, .ref a0_faces, .ref a0_rankOf, .ref a0_placeOf, .int (q7_faceMany r6.2), .int (q7_isLaid r14), .ref a0_counted, .ref a0_steps, .ref a0_onto, .ref a0_goes, .int (q7_found o0), .int (q7_images o0), .ref a0_firstImage, .int (q7_gathered o0)])), (a0_now, .inl (zI Z, 12, .inl (q7_now o0))), (a0_made, .inl (zI Z, 12, .inl v18.2)), (a0_history, .inl (zI Z, 96, .inl (q7_history r14))), (a0_closed, .inl (zI Z, 256, .inl (q7_closed r6.2))), (a0_faces, .inl (zI Z, 256, .inl (q7_faces r6.2))), (a0_rankOf, .inl (zI Z, 256, .inl (q7_rankOf r6.2))), (a0_placeOf, .inl (zI Z, 256, .inl (q7_placeOf r6.2)))]) rfl rfl (by decide) (by decide) (by decide) [(a0, .inr (7, [.int (q7_thrown r11.2), .ref a0_buffer, .int (q7_length o0), .int (q7_at o0), .int (q7_from o0), .int (q7_kind o0), .int (q7_number o0), .int (q7_wrong o0), .ref a0_now, .ref a0_made, .ref a0_history, .ref a0_saved, .int (q7_entries r14), .int (q7_isSaved o0), .ref a0_closed, .ref a0_faces, .ref a0_rankOf, .ref a0_placeOf, .int (q7_faceMany r6.2), .int (q7_isLaid r14), .ref a0_counted, .ref a0_steps, .ref a0_onto, .ref a0_goes, .int (q7_found o0), .int (q7_images o0), .ref a0_firstImage, .int (q7_gathered o0)])), (a0_now, .inl (zI Z, 12, .inl (q7_now o0))), (a0_made, .inl (zI Z, 12, .inl v18.2)), (a0_history, .inl (zI Z, 96, .inl (q7_history r14))), (a0_closed, .inl (zI Z, 256, .inl (q7_closed r6.2))), (a0_faces, .inl (zI Z, 256, .inl (q7_faces r6.2))), (a0_rankOf, .inl (zI Z, 256, .inl (q7_rankOf r6.2))), (a0_placeOf, .inl (zI Z, 256, .inl (q7_placeOf r6.2)))] rfl (by decide) (Nat.le_of_ble_eq_true rfl) (by rw [hR]; exact Nat.le_of_ble_eq_true rfl) (by rw [hR]; exact Nat.le_of_ble_eq_true rfl) ⟨by rw [hR]; exact Nat.le_of_ble_eq_true rfl, by rw [hR]; exact Nat.le_of_ble_eq_true rfl⟩ rfl dX7_cutOff_159 ?_
              refine g_if_eq C 182 dX7_cutOff_162 (by decide) (fun c42 => ?_) (fun c42 => ?_)
              · replace h := it_t c42 h
                refine g_iconst C 0 dX7_cutOff_182 (by decide) ?_
                refine g_ior C dX7_cutOff_183 ?_
                refine g_istore C dX7_cutOff_184 (by decide) [(7, .int (v32.1 ||| 0)), (0, .ref a0), (1, .int p1), (2, .int r6.1), (3, .int r8), (4, .int (((q7_now o0) (ix 0)) - 1)), (5, .int v18.1), (6, .int ((q7_now o0) (ix (2 + v18.1)))), (8, .int v32.2.1), (9, .int v32.2.2)] rfl ?_
                refine g_iinc C (v32.2.1 + 1) dX7_cutOff_186 8 rfl rfl (by decide) [(8, .int (v32.2.1 + 1)), (7, .int (v32.1 ||| 0)), (0, .ref a0), (1, .int p1), (2, .int r6.1), (3, .int r8), (4, .int (((q7_now o0) (ix 0)) - 1)), (5, .int v18.1), (6, .int ((q7_now o0) (ix (2 + v18.1)))), (9, .int v32.2.2)] rfl ?_
                refine g_iinc C (v32.2.2 + 1) dX7_cutOff_189 9 rfl rfl (by decide) [(9, .int (v32.2.2 + 1)), (8, .int (v32.2.1 + 1)), (7, .int (v32.1 ||| 0)), (0, .ref a0), (1, .int p1), (2, .int r6.1), (3, .int r8), (4, .int (((q7_now o0) (ix 0)) - 1)), (5, .int v18.1), (6, .int ((q7_now o0) (ix (2 + v18.1))))] rfl ?_
                refine g_goto C 138 dX7_cutOff_192 (by decide) ?_
                refine g_lv [3, 4, 5, 6, 7, 8, 9, 2, 1, 0] [(0, .ref a0), (1, .int p1), (2, .int r6.1), (3, .int r8), (4, .int (((q7_now o0) (ix 0)) - 1)), (5, .int v18.1), (6, .int ((q7_now o0) (ix (2 + v18.1)))), (7, .int (v32.1 ||| 0)), (8, .int (v32.2.1 + 1)), (9, .int (v32.2.2 + 1))] rfl ?_
                exact hk2 ((v32.1 ||| 0), (v32.2.1 + 1), (v32.2.2 + 1)) (Option.some.inj h).symm
              · replace h := it_f c42 h
                refine g_iload C dX7_cutOff_165 6 rfl ?_
                refine g_iload C dX7_cutOff_167 9 rfl ?_
                obtain ⟨r43, hr44, h⟩ := bd_of h
                refine g_callSi C (kX7_has l Z ((q7_now o0) (ix (2 + v18.1))) v32.2.2 r43 hr44) myX7_has 165 mw_6_45 rfl [] [0, 1, 2, 3, 4, 5, 6, 7] [0, 1, 2, 3, 4, 5, 6, 7] (wr := [(a0, .inr (7, [.int (q7_thrown r11.2), .ref a0_buffer, .int (q7_length o0), .int (q7_at o0), .int (q7_from o0), .int (q7_kind o0), .int (q7_number o0), .int (q7_wrong o0), .ref a0_now, .ref a0_made, .ref a0_history, .ref a0_saved, .int (q7_entries r14), .int (q7_isSaved o0), .ref a0_closed, .ref a0_faces, .ref a0_rankOf, .ref a0_placeOf, .int (q7_faceMany r6.2), .int (q7_isLaid r14), .ref a0_counted, .ref a0_steps, .ref a0_onto, .ref a0_goes, .int (q7_found o0), .int (q7_images o0), .ref a0_firstImage, .int (q7_gathered o0)])), (a0_now, .inl (zI Z, 12, .inl (q7_now o0))), (a0_made, .inl (zI Z, 12, .inl v18.2)), (a0_history, .inl (zI Z, 96, .inl (q7_history r14))), (a0_closed, .inl (zI Z, 256, .inl (q7_closed r6.2))), (a0_faces, .inl (zI Z, 256, .inl (q7_faces r6.2))), (a0_rankOf, .inl (zI Z, 256, .inl (q7_rankOf r6.2))), (a0_placeOf, .inl (zI Z, 256, .inl (q7_placeOf r6.2)))]) rfl rfl (by decide) (by decide) (by decide) [(a0, .inr (7, [.int (q7_thrown r11.2), .ref a0_buffer, .int (q7_length o0), .int (q7_at o0), .int (q7_from o0), .int (q7_kind o0), .int (q7_number o0), .int (q7_wrong o0), .ref a0_now, .ref a0_made, .ref a0_history, .ref a0_saved, .int (q7_entries r14), .int (q7_isSaved o0), .ref a0_closed, .ref a0_faces, .ref a0_rankOf, .ref a0_placeOf, .int (q7_faceMany r6.2), .int (q7_isLaid r14), .ref a0_counted, .ref a0_steps, .ref a0_onto, .ref a0_goes, .int (q7_found o0), .int (q7_images o0), .ref a0_firstImage, .int (q7_gathered o0)])), (a0_now, .inl (zI Z, 12, .inl (q7_now o0))), (a0_made, .inl (zI Z, 12, .inl v18.2)), (a0_history, .inl (zI Z, 96, .inl (q7_history r14))), (a0_closed, .inl (zI Z, 256, .inl (q7_closed r6.2))), (a0_faces, .inl (zI Z, 256, .inl (q7_faces r6.2))), (a0_rankOf, .inl (zI Z, 256, .inl (q7_rankOf r6.2))), (a0_placeOf, .inl (zI Z, 256, .inl (q7_placeOf r6.2)))] rfl (by decide) (Nat.le_of_ble_eq_true rfl) (by rw [hR]; exact Nat.le_of_ble_eq_true rfl) (by rw [hR]; exact Nat.le_of_ble_eq_true rfl) ⟨by rw [hR]; exact Nat.le_of_ble_eq_true rfl, by rw [hR]; exact Nat.le_of_ble_eq_true rfl⟩ rfl dX7_cutOff_169 ?_
                refine g_if_eq C 182 dX7_cutOff_172 (by decide) (fun c45 => ?_) (fun c45 => ?_)
                · replace h := it_t c45 h
                  refine g_iconst C 0 dX7_cutOff_182 (by decide) ?_
                  refine g_ior C dX7_cutOff_183 ?_
                  refine g_istore C dX7_cutOff_184 (by decide) [(7, .int (v32.1 ||| 0)), (0, .ref a0), (1, .int p1), (2, .int r6.1), (3, .int r8), (4, .int (((q7_now o0) (ix 0)) - 1)), (5, .int v18.1), (6, .int ((q7_now o0) (ix (2 + v18.1)))), (8, .int v32.2.1), (9, .int v32.2.2)] rfl ?_
                  refine g_iinc C (v32.2.1 + 1) dX7_cutOff_186 8 rfl rfl (by decide) [(8, .int (v32.2.1 + 1)), (7, .int (v32.1 ||| 0)), (0, .ref a0), (1, .int p1), (2, .int r6.1), (3, .int r8), (4, .int (((q7_now o0) (ix 0)) - 1)), (5, .int v18.1), (6, .int ((q7_now o0) (ix (2 + v18.1)))), (9, .int v32.2.2)] rfl ?_
                  refine g_iinc C (v32.2.2 + 1) dX7_cutOff_189 9 rfl rfl (by decide) [(9, .int (v32.2.2 + 1)), (8, .int (v32.2.1 + 1)), (7, .int (v32.1 ||| 0)), (0, .ref a0), (1, .int p1), (2, .int r6.1), (3, .int r8), (4, .int (((q7_now o0) (ix 0)) - 1)), (5, .int v18.1), (6, .int ((q7_now o0) (ix (2 + v18.1))))] rfl ?_
                  refine g_goto C 138 dX7_cutOff_192 (by decide) ?_
                  refine g_lv [3, 4, 5, 6, 7, 8, 9, 2, 1, 0] [(0, .ref a0), (1, .int p1), (2, .int r6.1), (3, .int r8), (4, .int (((q7_now o0) (ix 0)) - 1)), (5, .int v18.1), (6, .int ((q7_now o0) (ix (2 + v18.1)))), (7, .int (v32.1 ||| 0)), (8, .int (v32.2.1 + 1)), (9, .int (v32.2.2 + 1))] rfl ?_
                  exact hk2 ((v32.1 ||| 0), (v32.2.1 + 1), (v32.2.2 + 1)) (Option.some.inj h).symm
                · replace h := it_f c45 h
                  refine g_iconst C 1 dX7_cutOff_175 (by decide) ?_
                  refine g_iload C dX7_cutOff_176 8 rfl ?_
                  refine g_ishl C dX7_cutOff_178 ?_
                  refine g_goto C 183 dX7_cutOff_179 (by decide) ?_
                  refine g_ior C dX7_cutOff_183 ?_
                  refine g_istore C dX7_cutOff_184 (by decide) [(7, .int (v32.1 ||| (jshl 1 v32.2.1))), (0, .ref a0), (1, .int p1), (2, .int r6.1), (3, .int r8), (4, .int (((q7_now o0) (ix 0)) - 1)), (5, .int v18.1), (6, .int ((q7_now o0) (ix (2 + v18.1)))), (8, .int v32.2.1), (9, .int v32.2.2)] rfl ?_
                  refine g_iinc C (v32.2.1 + 1) dX7_cutOff_186 8 rfl rfl (by decide) [(8, .int (v32.2.1 + 1)), (7, .int (v32.1 ||| (jshl 1 v32.2.1))), (0, .ref a0), (1, .int p1), (2, .int r6.1), (3, .int r8), (4, .int (((q7_now o0) (ix 0)) - 1)), (5, .int v18.1), (6, .int ((q7_now o0) (ix (2 + v18.1)))), (9, .int v32.2.2)] rfl ?_
                  refine g_iinc C (v32.2.2 + 1) dX7_cutOff_189 9 rfl rfl (by decide) [(9, .int (v32.2.2 + 1)), (8, .int (v32.2.1 + 1)), (7, .int (v32.1 ||| (jshl 1 v32.2.1))), (0, .ref a0), (1, .int p1), (2, .int r6.1), (3, .int r8), (4, .int (((q7_now o0) (ix 0)) - 1)), (5, .int v18.1), (6, .int ((q7_now o0) (ix (2 + v18.1))))] rfl ?_
                  refine g_goto C 138 dX7_cutOff_192 (by decide) ?_
                  refine g_lv [3, 4, 5, 6, 7, 8, 9, 2, 1, 0] [(0, .ref a0), (1, .int p1), (2, .int r6.1), (3, .int r8), (4, .int (((q7_now o0) (ix 0)) - 1)), (5, .int v18.1), (6, .int ((q7_now o0) (ix (2 + v18.1)))), (7, .int (v32.1 ||| (jshl 1 v32.2.1))), (8, .int (v32.2.1 + 1)), (9, .int (v32.2.2 + 1))] rfl ?_
                  exact hk2 ((v32.1 ||| (jshl 1 v32.2.1)), (v32.2.1 + 1), (v32.2.2 + 1)) (Option.some.inj h).symm
      · replace h := it_f c13 h
        refine g_iconst C 0 dX7_cutOff_74 (by decide) ?_
        obtain rfl := Option.some.inj h
        subst hQ
        exact g_iret C rfl hr hlk dX7_cutOff_75 [0, 1, 2, 3, 4, 5, 6, 7] rfl (by decide)
    have hj66 : fX7_cutOff_J66 o0 p1 r3 r6 r8 = some res → Gw p l e R s m args below meth c 10 Z A Q 0 0 66 [(0, .ref a0), (1, .int p1), (2, .int r6.1), (3, .int r8)] [.ref a0] [(a0, .inr (7, [.int (q7_thrown r3.2), .ref a0_buffer, .int (q7_length o0), .int (q7_at o0), .int (q7_from o0), .int (q7_kind o0), .int (q7_number o0), .int (q7_wrong o0), .ref a0_now, .ref a0_made, .ref a0_history, .ref a0_saved, .int (q7_entries o0), .int (q7_isSaved o0), .ref a0_closed, .ref a0_faces, .ref a0_rankOf, .ref a0_placeOf, .int (q7_faceMany r6.2), .int (q7_isLaid r6.2), .ref a0_counted, .ref a0_steps, .ref a0_onto, .ref a0_goes, .int (q7_found o0), .int (q7_images o0), .ref a0_firstImage, .int (q7_gathered o0)])), (a0_now, .inl (zI Z, 12, .inl (q7_now o0))), (a0_made, .inl (zI Z, 12, .inl (q7_made o0))), (a0_history, .inl (zI Z, 96, .inl (q7_history o0))), (a0_closed, .inl (zI Z, 256, .inl (q7_closed r6.2))), (a0_faces, .inl (zI Z, 256, .inl (q7_faces r6.2))), (a0_rankOf, .inl (zI Z, 256, .inl (q7_rankOf r6.2))), (a0_placeOf, .inl (zI Z, 256, .inl (q7_placeOf r6.2)))] := by
      intro h
      unfold fX7_cutOff_J66 at h
      refine g_iconst C 0 dX7_cutOff_66 (by decide) ?_
      exact hj67 0 h
    refine g_if_le C 66 dX7_cutOff_33 (by decide) (fun c46 => ?_) (fun c46 => ?_)
    · replace h := it_t c46 h
      refine g_lv [2, 3, 1, 0] [(0, .ref a0), (1, .int p1), (2, .int r6.1), (3, .int r8)] rfl ?_
      exact hj66 h
    · replace h := it_f c46 h
      refine g_aload_n C dX7_cutOff_36 rfl 2 rfl ?_
      refine g_get C 7 13 gin7 0 rfl rfl 8 (by decide) mw_5_93 rfl rfl dX7_cutOff_37 ?_
      refine g_iconst C 0 dX7_cutOff_40 (by decide) ?_
      refine g_iald C 1 rfl (by decide) dX7_cutOff_41 ?_
      refine g_iconst C 1 dX7_cutOff_42 (by decide) ?_
      refine g_isub C dX7_cutOff_43 ?_
      refine g_iload_n C dX7_cutOff_44 rfl 0 rfl ?_
      refine g_iadd C dX7_cutOff_45 ?_
      refine g_bipush C 8 dX7_cutOff_46 (by decide) ?_
      refine g_icmp_gt C 66 dX7_cutOff_48 (by decide) (fun c47 => ?_) (fun c47 => ?_)
      · replace h := it_t c47 h
        refine g_lv [2, 3, 1, 0] [(0, .ref a0), (1, .int p1), (2, .int r6.1), (3, .int r8)] rfl ?_
        exact hj66 h
      · replace h := it_f c47 h
        refine g_aload_n C dX7_cutOff_51 rfl 2 rfl ?_
        refine g_get C 7 13 gin7 0 rfl rfl 8 (by decide) mw_5_93 rfl rfl dX7_cutOff_52 ?_
        refine g_iconst C 1 dX7_cutOff_55 (by decide) ?_
        refine g_iald C 1 rfl (by decide) dX7_cutOff_56 ?_
        refine g_bipush C 10 dX7_cutOff_57 (by decide) ?_
        refine g_icmp_ge C 66 dX7_cutOff_59 (by decide) (fun c48 => ?_) (fun c48 => ?_)
        · replace h := it_t c48 h
          refine g_lv [2, 3, 1, 0] [(0, .ref a0), (1, .int p1), (2, .int r6.1), (3, .int r8)] rfl ?_
          exact hj66 h
        · replace h := it_f c48 h
          refine g_iconst C 1 dX7_cutOff_62 (by decide) ?_
          refine g_goto C 67 dX7_cutOff_63 (by decide) ?_
          refine g_lv [2, 3, 1, 0] [(0, .ref a0), (1, .int p1), (2, .int r6.1), (3, .int r8)] rfl ?_
          exact hj67 1 h
  · replace h := it_f c5 h
    refine g_iconst C 0 dX7_cutOff_18 (by decide) ?_
    obtain rfl := Option.some.inj h
    subst hQ
    exact g_iret C rfl hr hlk dX7_cutOff_19 [0, 1, 2, 3, 4, 5, 6, 7] rfl (by decide)
def fX7_within_L7 (p0 : Int32) (p1 : Int32) (v1 : Int32 × Int32 × Int32) : Option ((Int32 × Int32 × Int32) ⊕ (Int32)) :=
  if 8 ≤ v1.2.2 then (ex (some v1.1))
  else ((fX7_has p1 v1.2.2).bind fun r4 =>
  (if r4 = 0 then (some (.inl (v1.1, v1.2.1, (v1.2.2 + 1))))
  else ((fX7_has p0 v1.2.2).bind fun r7 =>
  (if r7 = 0 then (some (.inl ((v1.1 ||| 0), (v1.2.1 + 1), (v1.2.2 + 1))))
  else (some (.inl ((v1.1 ||| (jshl 1 v1.2.1)), (v1.2.1 + 1), (v1.2.2 + 1))))))))
def fX7_within (p0 : Int32) (p1 : Int32) : Option (Int32) :=
  lp (fX7_within_L7 p0 p1) lpN (0, 0, 0)
theorem myX7_within : MYs yX7_within cX7_within 5 (some .int) 2 := ⟨mw_6_179, mw_6_180, mw_1_9, ⟨by decide +kernel, by decide +kernel⟩, by decide +kernel⟩
set_option maxRecDepth 100000 in
set_option maxHeartbeats 4000000 in
theorem kX7_within (l : Launch) (Z : GZ) (p0 : Int32) (p1 : Int32) (res : Int32) (h : fX7_within p0 p1 = some res) : MI l Z yX7_within cX7_within 5 .int 1 21 [.int p0, .int p1] [] res [] := by
  refine MI_of (by decide +kernel) (Nat.le_of_ble_eq_true rfl) (fun {p e s m args below meth c} A R hR Q hQ C hr hlk => ?_)
  unfold fX7_within at h
  refine g_lv [0, 1] [(0, .int p0), (1, .int p1)] rfl ?_
  refine g_iconst C 0 dX7_within_0 (by decide) ?_
  refine g_istore_n C dX7_within_1 rfl (by decide) [(2, .int 0), (0, .int p0), (1, .int p1)] rfl ?_
  refine g_iconst C 0 dX7_within_2 (by decide) ?_
  refine g_istore_n C dX7_within_3 rfl (by decide) [(3, .int 0), (2, .int 0), (0, .int p0), (1, .int p1)] rfl ?_
  refine g_iconst C 0 dX7_within_4 (by decide) ?_
  refine g_istore C dX7_within_5 (by decide) [(4, .int 0), (3, .int 0), (2, .int 0), (0, .int p0), (1, .int p1)] rfl ?_
  refine g_lv [3, 4, 2, 1, 0] [(0, .int p0), (1, .int p1), (2, .int 0), (3, .int 0), (4, .int 0)] rfl ?_
  refine g_loop (lvf := fun v1 => [(0, .int p0), (1, .int p1), (2, .int v1.1), (3, .int v1.2.1), (4, .int v1.2.2)]) (wsf := fun v1 => []) h (fun v1 y1 h hk1 hx1 => ?_)
  refine g_eq (lv1 := [(0, .int p0), (1, .int p1), (2, .int v1.1), (3, .int v1.2.1), (4, .int v1.2.2)]) (st1 := []) (ws1 := []) rfl rfl rfl rfl ?_
  unfold fX7_within_L7 at h
  refine g_iload C dX7_within_7 4 rfl ?_
  refine g_bipush C 8 dX7_within_9 (by decide) ?_
  refine g_icmp_ge C 51 dX7_within_11 (by decide) (fun c2 => ?_) (fun c2 => ?_)
  · replace h := it_t c2 h
    obtain ⟨r3, h, hy⟩ := ex_of h
    rw [hx1 r3 hy] at h
    refine g_iload_n C dX7_within_51 rfl 2 rfl ?_
    obtain rfl := Option.some.inj h
    subst hQ
    exact g_iret C rfl hr hlk dX7_within_52 [] rfl (by decide)
  · replace h := it_f c2 h
    refine g_iload_n C dX7_within_14 rfl 1 rfl ?_
    refine g_iload C dX7_within_15 4 rfl ?_
    obtain ⟨r4, hr5, h⟩ := bd_of h
    refine g_callSi C (kX7_has l Z p1 v1.2.2 r4 hr5) myX7_has 165 mw_6_45 rfl [] [] [] (wr := []) rfl rfl (by decide) (by decide) (by decide) [] rfl (by decide) (Nat.le_of_ble_eq_true rfl) (by rw [hR]; exact Nat.le_of_ble_eq_true rfl) (by rw [hR]; exact Nat.le_of_ble_eq_true rfl) ⟨by rw [hR]; exact Nat.le_of_ble_eq_true rfl, by rw [hR]; exact Nat.le_of_ble_eq_true rfl⟩ rfl dX7_within_17 ?_
    refine g_if_eq C 45 dX7_within_20 (by decide) (fun c6 => ?_) (fun c6 => ?_)
    · replace h := it_t c6 h
      refine g_iinc C (v1.2.2 + 1) dX7_within_45 4 rfl rfl (by decide) [(4, .int (v1.2.2 + 1)), (0, .int p0), (1, .int p1), (2, .int v1.1), (3, .int v1.2.1)] rfl ?_
      refine g_goto C 7 dX7_within_48 (by decide) ?_
      refine g_lv [1, 2, 3, 4, 0] [(0, .int p0), (1, .int p1), (2, .int v1.1), (3, .int v1.2.1), (4, .int (v1.2.2 + 1))] rfl ?_
      exact hk1 (v1.1, v1.2.1, (v1.2.2 + 1)) (Option.some.inj h).symm
    · replace h := it_f c6 h
      refine g_iload_n C dX7_within_23 rfl 2 rfl ?_
      refine g_iload_n C dX7_within_24 rfl 0 rfl ?_
      refine g_iload C dX7_within_25 4 rfl ?_
      obtain ⟨r7, hr8, h⟩ := bd_of h
      refine g_callSi C (kX7_has l Z p0 v1.2.2 r7 hr8) myX7_has 165 mw_6_45 rfl [] [] [] (wr := []) rfl rfl (by decide) (by decide) (by decide) [] rfl (by decide) (Nat.le_of_ble_eq_true rfl) (by rw [hR]; exact Nat.le_of_ble_eq_true rfl) (by rw [hR]; exact Nat.le_of_ble_eq_true rfl) ⟨by rw [hR]; exact Nat.le_of_ble_eq_true rfl, by rw [hR]; exact Nat.le_of_ble_eq_true rfl⟩ rfl dX7_within_27 ?_
      refine g_if_eq C 39 dX7_within_30 (by decide) (fun c9 => ?_) (fun c9 => ?_)
      · replace h := it_t c9 h
        refine g_iconst C 0 dX7_within_39 (by decide) ?_
        refine g_ior C dX7_within_40 ?_
        refine g_istore_n C dX7_within_41 rfl (by decide) [(2, .int (v1.1 ||| 0)), (0, .int p0), (1, .int p1), (3, .int v1.2.1), (4, .int v1.2.2)] rfl ?_
        refine g_iinc C (v1.2.1 + 1) dX7_within_42 3 rfl rfl (by decide) [(3, .int (v1.2.1 + 1)), (2, .int (v1.1 ||| 0)), (0, .int p0), (1, .int p1), (4, .int v1.2.2)] rfl ?_
        refine g_iinc C (v1.2.2 + 1) dX7_within_45 4 rfl rfl (by decide) [(4, .int (v1.2.2 + 1)), (3, .int (v1.2.1 + 1)), (2, .int (v1.1 ||| 0)), (0, .int p0), (1, .int p1)] rfl ?_
        refine g_goto C 7 dX7_within_48 (by decide) ?_
        refine g_lv [3, 4, 2, 1, 0] [(0, .int p0), (1, .int p1), (2, .int (v1.1 ||| 0)), (3, .int (v1.2.1 + 1)), (4, .int (v1.2.2 + 1))] rfl ?_
        exact hk1 ((v1.1 ||| 0), (v1.2.1 + 1), (v1.2.2 + 1)) (Option.some.inj h).symm
      · replace h := it_f c9 h
        refine g_iconst C 1 dX7_within_33 (by decide) ?_
        refine g_iload_n C dX7_within_34 rfl 3 rfl ?_
        refine g_ishl C dX7_within_35 ?_
        refine g_goto C 40 dX7_within_36 (by decide) ?_
        refine g_ior C dX7_within_40 ?_
        refine g_istore_n C dX7_within_41 rfl (by decide) [(2, .int (v1.1 ||| (jshl 1 v1.2.1))), (0, .int p0), (1, .int p1), (3, .int v1.2.1), (4, .int v1.2.2)] rfl ?_
        refine g_iinc C (v1.2.1 + 1) dX7_within_42 3 rfl rfl (by decide) [(3, .int (v1.2.1 + 1)), (2, .int (v1.1 ||| (jshl 1 v1.2.1))), (0, .int p0), (1, .int p1), (4, .int v1.2.2)] rfl ?_
        refine g_iinc C (v1.2.2 + 1) dX7_within_45 4 rfl rfl (by decide) [(4, .int (v1.2.2 + 1)), (3, .int (v1.2.1 + 1)), (2, .int (v1.1 ||| (jshl 1 v1.2.1))), (0, .int p0), (1, .int p1)] rfl ?_
        refine g_goto C 7 dX7_within_48 (by decide) ?_
        refine g_lv [3, 4, 2, 1, 0] [(0, .int p0), (1, .int p1), (2, .int (v1.1 ||| (jshl 1 v1.2.1))), (3, .int (v1.2.1 + 1)), (4, .int (v1.2.2 + 1))] rfl ?_
        exact hk1 ((v1.1 ||| (jshl 1 v1.2.1)), (v1.2.1 + 1), (v1.2.2 + 1)) (Option.some.inj h).symm
def fX7_keepFace_L72 (o0 : OX7) (p1 : Int32) (r1 : Int32 × OX7) (r8 : Int32 × OX7) (r11 : OX7) (v18 : Int32 × (Nat → Int32)) : Option ((Int32 × (Nat → Int32)) ⊕ (Int32 × OX7)) :=
  if (q7_faceMany r1.2) ≤ v18.1 then (ex ((fX7_takeMade (s7_isLaid (s7_faceMany (s7_placeOf (s7_rankOf (s7_faces (s7_closed (s7_entries (s7_history (s7_made (s7_thrown o0 (q7_thrown r8.2)) v18.2) (q7_history r11)) (q7_entries r11)) (q7_closed r1.2)) (q7_faces r1.2)) (q7_rankOf r1.2)) (q7_placeOf r1.2)) (q7_faceMany r1.2)) (q7_isLaid r11))).bind fun r21 =>
  (some (((q7_now r21) (ix 1)), (s7_isLaid (s7_faceMany (s7_placeOf (s7_rankOf (s7_faces (s7_closed (s7_entries (s7_history (s7_made (s7_now (s7_thrown o0 (q7_thrown r8.2)) (q7_now r21)) v18.2) (q7_history r11)) (q7_entries r11)) (q7_closed r1.2)) (q7_faces r1.2)) (q7_rankOf r1.2)) (q7_placeOf r1.2)) (q7_faceMany r1.2)) (q7_isLaid r21))))))
  else ((fX7_covers (s7_isLaid (s7_faceMany (s7_placeOf (s7_rankOf (s7_faces (s7_closed (s7_entries (s7_history (s7_made (s7_thrown o0 (q7_thrown r8.2)) v18.2) (q7_history r11)) (q7_entries r11)) (q7_closed r1.2)) (q7_faces r1.2)) (q7_rankOf r1.2)) (q7_placeOf r1.2)) (q7_faceMany r1.2)) (q7_isLaid r11)) p1 v18.1).bind fun r23 =>
  (if r23 = 0 then (some (.inl ((v18.1 + 1), v18.2)))
  else (ck (okI v18.1 256) (ck (okI p1 256) ((fX7_within ((q7_faces r1.2) (ix v18.1)) ((q7_faces r1.2) (ix p1))).bind fun r28 =>
  ((fX7_add (s7_isLaid (s7_faceMany (s7_placeOf (s7_rankOf (s7_faces (s7_closed (s7_entries (s7_history (s7_made (s7_thrown o0 (q7_thrown r8.2)) v18.2) (q7_history r11)) (q7_entries r11)) (q7_closed r1.2)) (q7_faces r1.2)) (q7_rankOf r1.2)) (q7_placeOf r1.2)) (q7_faceMany r1.2)) (q7_isLaid r11)) r28).bind fun r30 =>
  (some (.inl ((v18.1 + 1), (q7_made r30))))))))))
def fX7_keepFace_J44 (o0 : OX7) (p1 : Int32) (r1 : Int32 × OX7) (r3 : Int32 × OX7) (x7 : Int32) : Option (Int32 × OX7) :=
  (fX7_fails (s7_isLaid (s7_faceMany (s7_placeOf (s7_rankOf (s7_faces (s7_closed (s7_thrown o0 (q7_thrown r3.2)) (q7_closed r1.2)) (q7_faces r1.2)) (q7_rankOf r1.2)) (q7_placeOf r1.2)) (q7_faceMany r1.2)) (q7_isLaid r1.2)) x7 2).bind fun r8 =>
  (if r8.1 = 0 then ((fX7_record (s7_isLaid (s7_faceMany (s7_placeOf (s7_rankOf (s7_faces (s7_closed (s7_thrown o0 (q7_thrown r8.2)) (q7_closed r1.2)) (q7_faces r1.2)) (q7_rankOf r1.2)) (q7_placeOf r1.2)) (q7_faceMany r1.2)) (q7_isLaid r1.2))).bind fun r11 =>
  (ck (okI p1 256) ((fX7_bits ((q7_faces r1.2) (ix p1))).bind fun r14 =>
  ((fX7_begin (s7_isLaid (s7_faceMany (s7_placeOf (s7_rankOf (s7_faces (s7_closed (s7_entries (s7_history (s7_thrown o0 (q7_thrown r8.2)) (q7_history r11)) (q7_entries r11)) (q7_closed r1.2)) (q7_faces r1.2)) (q7_rankOf r1.2)) (q7_placeOf r1.2)) (q7_faceMany r1.2)) (q7_isLaid r11)) r14).bind fun r16 =>
  (lp (fX7_keepFace_L72 o0 p1 r1 r8 r11) lpN (0, (q7_made r16)))))))
  else (some (0, (s7_isLaid (s7_faceMany (s7_placeOf (s7_rankOf (s7_faces (s7_closed (s7_thrown o0 (q7_thrown r8.2)) (q7_closed r1.2)) (q7_faces r1.2)) (q7_rankOf r1.2)) (q7_placeOf r1.2)) (q7_faceMany r1.2)) (q7_isLaid r1.2)))))
def fX7_keepFace_J43 (o0 : OX7) (p1 : Int32) (r1 : Int32 × OX7) (r3 : Int32 × OX7) : Option (Int32 × OX7) :=
  fX7_keepFace_J44 o0 p1 r1 r3 0
def fX7_keepFace (o0 : OX7) (p1 : Int32) : Option (Int32 × OX7) :=
  (fX7_isFace (s7_thrown o0 0) p1).bind fun r1 =>
  ((fX7_fails (s7_isLaid (s7_faceMany (s7_placeOf (s7_rankOf (s7_faces (s7_closed (s7_thrown o0 0) (q7_closed r1.2)) (q7_faces r1.2)) (q7_rankOf r1.2)) (q7_placeOf r1.2)) (q7_faceMany r1.2)) (q7_isLaid r1.2)) r1.1 1).bind fun r3 =>
  (if r3.1 = 0 then (ck (okI p1 256) (if ((q7_faces r1.2) (ix p1)) = 0 then (fX7_keepFace_J43 o0 p1 r1 r3)
  else ((fX7_coverCount (s7_isLaid (s7_faceMany (s7_placeOf (s7_rankOf (s7_faces (s7_closed (s7_thrown o0 (q7_thrown r3.2)) (q7_closed r1.2)) (q7_faces r1.2)) (q7_rankOf r1.2)) (q7_placeOf r1.2)) (q7_faceMany r1.2)) (q7_isLaid r1.2)) p1 0).bind fun r33 =>
  (if 10 < r33 then (fX7_keepFace_J43 o0 p1 r1 r3)
  else (fX7_keepFace_J44 o0 p1 r1 r3 1)))))
  else (some (0, (s7_isLaid (s7_faceMany (s7_placeOf (s7_rankOf (s7_faces (s7_closed (s7_thrown o0 (q7_thrown r3.2)) (q7_closed r1.2)) (q7_faces r1.2)) (q7_rankOf r1.2)) (q7_placeOf r1.2)) (q7_faceMany r1.2)) (q7_isLaid r1.2))))))
theorem myX7_keepFace : MYv yX7_keepFace cX7_keepFace 3 (some .int) 1 := ⟨mw_6_171, mw_6_172, mw_6_173, mw_1_9, ⟨by decide +kernel, by decide +kernel⟩, by decide +kernel⟩
set_option maxRecDepth 100000 in
set_option maxHeartbeats 4000000 in
theorem kX7_keepFace (l : Launch) (Z : GZ) (a0 a0_buffer a0_now a0_made a0_history a0_saved a0_closed a0_faces a0_rankOf a0_placeOf a0_counted a0_steps a0_onto a0_goes a0_firstImage : Nat) (o0 : OX7) (p1 : Int32) (res : Int32 × OX7) (h : fX7_keepFace o0 p1 = some res) : MI l Z yX7_keepFace cX7_keepFace 3 .int 5 110 [.ref a0, .int p1] [(a0, .inr (7, [.int (q7_thrown o0), .ref a0_buffer, .int (q7_length o0), .int (q7_at o0), .int (q7_from o0), .int (q7_kind o0), .int (q7_number o0), .int (q7_wrong o0), .ref a0_now, .ref a0_made, .ref a0_history, .ref a0_saved, .int (q7_entries o0), .int (q7_isSaved o0), .ref a0_closed, .ref a0_faces, .ref a0_rankOf, .ref a0_placeOf, .int (q7_faceMany o0), .int (q7_isLaid o0), .ref a0_counted, .ref a0_steps, .ref a0_onto, .ref a0_goes, .int (q7_found o0), .int (q7_images o0), .ref a0_firstImage, .int (q7_gathered o0)])), (a0_now, .inl (zI Z, 12, .inl (q7_now o0))), (a0_made, .inl (zI Z, 12, .inl (q7_made o0))), (a0_history, .inl (zI Z, 96, .inl (q7_history o0))), (a0_closed, .inl (zI Z, 256, .inl (q7_closed o0))), (a0_faces, .inl (zI Z, 256, .inl (q7_faces o0))), (a0_rankOf, .inl (zI Z, 256, .inl (q7_rankOf o0))), (a0_placeOf, .inl (zI Z, 256, .inl (q7_placeOf o0)))] res.1 [(a0, .inr (7, [.int (q7_thrown res.2), .ref a0_buffer, .int (q7_length o0), .int (q7_at o0), .int (q7_from o0), .int (q7_kind o0), .int (q7_number o0), .int (q7_wrong o0), .ref a0_now, .ref a0_made, .ref a0_history, .ref a0_saved, .int (q7_entries res.2), .int (q7_isSaved o0), .ref a0_closed, .ref a0_faces, .ref a0_rankOf, .ref a0_placeOf, .int (q7_faceMany res.2), .int (q7_isLaid res.2), .ref a0_counted, .ref a0_steps, .ref a0_onto, .ref a0_goes, .int (q7_found o0), .int (q7_images o0), .ref a0_firstImage, .int (q7_gathered o0)])), (a0_now, .inl (zI Z, 12, .inl (q7_now res.2))), (a0_made, .inl (zI Z, 12, .inl (q7_made res.2))), (a0_history, .inl (zI Z, 96, .inl (q7_history res.2))), (a0_closed, .inl (zI Z, 256, .inl (q7_closed res.2))), (a0_faces, .inl (zI Z, 256, .inl (q7_faces res.2))), (a0_rankOf, .inl (zI Z, 256, .inl (q7_rankOf res.2))), (a0_placeOf, .inl (zI Z, 256, .inl (q7_placeOf res.2)))] := by
  refine MI_of (by decide +kernel) (Nat.le_of_ble_eq_true rfl) (fun {p e s m args below meth c} A R hR Q hQ C hr hlk => ?_)
  unfold fX7_keepFace at h
  refine g_lv [0, 1] [(0, .ref a0), (1, .int p1)] rfl ?_
  refine g_aload_n C dX7_keepFace_0 rfl 0 rfl ?_
  refine g_iconst C 0 dX7_keepFace_1 (by decide) ?_
  refine g_put C 7 52 gin7 tyX7 tyX7_ok nmX7 0 rfl rfl 0 (by decide) mw_5_85 rfl rfl (ty := .int) (by decide +kernel) rfl rfl (Nat.le_of_ble_eq_true rfl) [(a0, .inr (7, [.int 0, .ref a0_buffer, .int (q7_length o0), .int (q7_at o0), .int (q7_from o0), .int (q7_kind o0), .int (q7_number o0), .int (q7_wrong o0), .ref a0_now, .ref a0_made, .ref a0_history, .ref a0_saved, .int (q7_entries o0), .int (q7_isSaved o0), .ref a0_closed, .ref a0_faces, .ref a0_rankOf, .ref a0_placeOf, .int (q7_faceMany o0), .int (q7_isLaid o0), .ref a0_counted, .ref a0_steps, .ref a0_onto, .ref a0_goes, .int (q7_found o0), .int (q7_images o0), .ref a0_firstImage, .int (q7_gathered o0)])), (a0_now, .inl (zI Z, 12, .inl (q7_now o0))), (a0_made, .inl (zI Z, 12, .inl (q7_made o0))), (a0_history, .inl (zI Z, 96, .inl (q7_history o0))), (a0_closed, .inl (zI Z, 256, .inl (q7_closed o0))), (a0_faces, .inl (zI Z, 256, .inl (q7_faces o0))), (a0_rankOf, .inl (zI Z, 256, .inl (q7_rankOf o0))), (a0_placeOf, .inl (zI Z, 256, .inl (q7_placeOf o0)))] rfl dX7_keepFace_2 ?_
  refine g_aload_n C dX7_keepFace_5 rfl 0 rfl ?_
  refine g_aload_n C dX7_keepFace_6 rfl 0 rfl ?_
  refine g_iload_n C dX7_keepFace_7 rfl 1 rfl ?_
  obtain ⟨r1, hr2, h⟩ := bd_of h
  refine g_callVi C (kX7_isFace l Z a0 a0_buffer a0_now a0_made a0_history a0_saved a0_closed a0_faces a0_rankOf a0_placeOf a0_counted a0_steps a0_onto a0_goes a0_firstImage (s7_thrown o0 0) p1 r1 hr2) 0 rfl (ci := 7) rfl rfl myX7_isFace 257 mw_6_174 rfl [0, 1, 4, 5, 6, 7] [2, 3] [2, 3, 0, 1, 4, 5, 6, 7] (wr := [(a0_made, .inl (zI Z, 12, .inl (q7_made o0))), (a0_history, .inl (zI Z, 96, .inl (q7_history o0)))]) rfl rfl (by decide) (by decide) (by decide) [(a0, .inr (7, [.int 0, .ref a0_buffer, .int (q7_length o0), .int (q7_at o0), .int (q7_from o0), .int (q7_kind o0), .int (q7_number o0), .int (q7_wrong o0), .ref a0_now, .ref a0_made, .ref a0_history, .ref a0_saved, .int (q7_entries o0), .int (q7_isSaved o0), .ref a0_closed, .ref a0_faces, .ref a0_rankOf, .ref a0_placeOf, .int (q7_faceMany r1.2), .int (q7_isLaid r1.2), .ref a0_counted, .ref a0_steps, .ref a0_onto, .ref a0_goes, .int (q7_found o0), .int (q7_images o0), .ref a0_firstImage, .int (q7_gathered o0)])), (a0_now, .inl (zI Z, 12, .inl (q7_now o0))), (a0_made, .inl (zI Z, 12, .inl (q7_made o0))), (a0_history, .inl (zI Z, 96, .inl (q7_history o0))), (a0_closed, .inl (zI Z, 256, .inl (q7_closed r1.2))), (a0_faces, .inl (zI Z, 256, .inl (q7_faces r1.2))), (a0_rankOf, .inl (zI Z, 256, .inl (q7_rankOf r1.2))), (a0_placeOf, .inl (zI Z, 256, .inl (q7_placeOf r1.2)))] rfl (by decide) (Nat.le_of_ble_eq_true rfl) (by rw [hR]; exact Nat.le_of_ble_eq_true rfl) (by rw [hR]; exact Nat.le_of_ble_eq_true rfl) ⟨by rw [hR]; exact Nat.le_of_ble_eq_true rfl, by rw [hR]; exact Nat.le_of_ble_eq_true rfl⟩ rfl dX7_keepFace_8 ?_
  refine g_iconst C 1 dX7_keepFace_11 (by decide) ?_
  obtain ⟨r3, hr4, h⟩ := bd_of h
  refine g_callVi C (kX7_fails l Z a0 a0_buffer a0_now a0_made a0_history a0_saved a0_closed a0_faces a0_rankOf a0_placeOf a0_counted a0_steps a0_onto a0_goes a0_firstImage (s7_isLaid (s7_faceMany (s7_placeOf (s7_rankOf (s7_faces (s7_closed (s7_thrown o0 0) (q7_closed r1.2)) (q7_faces r1.2)) (q7_rankOf r1.2)) (q7_placeOf r1.2)) (q7_faceMany r1.2)) (q7_isLaid r1.2)) r1.1 1 r3 hr4) 0 rfl (ci := 7) rfl rfl myX7_fails 63 mw_5_181 rfl [0] [1, 2, 3, 4, 5, 6, 7] [7, 0, 1, 2, 3, 4, 5, 6] (wr := [(a0_now, .inl (zI Z, 12, .inl (q7_now o0))), (a0_made, .inl (zI Z, 12, .inl (q7_made o0))), (a0_history, .inl (zI Z, 96, .inl (q7_history o0))), (a0_closed, .inl (zI Z, 256, .inl (q7_closed r1.2))), (a0_faces, .inl (zI Z, 256, .inl (q7_faces r1.2))), (a0_rankOf, .inl (zI Z, 256, .inl (q7_rankOf r1.2))), (a0_placeOf, .inl (zI Z, 256, .inl (q7_placeOf r1.2)))]) rfl rfl (by decide) (by decide) (by decide) [(a0, .inr (7, [.int (q7_thrown r3.2), .ref a0_buffer, .int (q7_length o0), .int (q7_at o0), .int (q7_from o0), .int (q7_kind o0), .int (q7_number o0), .int (q7_wrong o0), .ref a0_now, .ref a0_made, .ref a0_history, .ref a0_saved, .int (q7_entries o0), .int (q7_isSaved o0), .ref a0_closed, .ref a0_faces, .ref a0_rankOf, .ref a0_placeOf, .int (q7_faceMany r1.2), .int (q7_isLaid r1.2), .ref a0_counted, .ref a0_steps, .ref a0_onto, .ref a0_goes, .int (q7_found o0), .int (q7_images o0), .ref a0_firstImage, .int (q7_gathered o0)])), (a0_now, .inl (zI Z, 12, .inl (q7_now o0))), (a0_made, .inl (zI Z, 12, .inl (q7_made o0))), (a0_history, .inl (zI Z, 96, .inl (q7_history o0))), (a0_closed, .inl (zI Z, 256, .inl (q7_closed r1.2))), (a0_faces, .inl (zI Z, 256, .inl (q7_faces r1.2))), (a0_rankOf, .inl (zI Z, 256, .inl (q7_rankOf r1.2))), (a0_placeOf, .inl (zI Z, 256, .inl (q7_placeOf r1.2)))] rfl (by decide) (Nat.le_of_ble_eq_true rfl) (by rw [hR]; exact Nat.le_of_ble_eq_true rfl) (by rw [hR]; exact Nat.le_of_ble_eq_true rfl) ⟨by rw [hR]; exact Nat.le_of_ble_eq_true rfl, by rw [hR]; exact Nat.le_of_ble_eq_true rfl⟩ rfl dX7_keepFace_12 ?_
  refine g_if_ne C 51 dX7_keepFace_15 (by decide) (fun c5 => ?_) (fun c5 => ?_)
  · replace h := it_f c5 h
    refine g_iconst C 0 dX7_keepFace_51 (by decide) ?_
    obtain rfl := Option.some.inj h
    subst hQ
    exact g_iret C rfl hr hlk dX7_keepFace_52 [0, 1, 2, 3, 4, 5, 6, 7] rfl (by decide)
  · replace h := it_t c5 h
    refine g_aload_n C dX7_keepFace_18 rfl 0 rfl ?_
    refine g_aload_n C dX7_keepFace_19 rfl 0 rfl ?_
    refine g_get C 7 28 gin7 0 rfl rfl 15 (by decide) mw_5_100 rfl rfl dX7_keepFace_20 ?_
    refine g_iload_n C dX7_keepFace_23 rfl 1 rfl ?_
    obtain ⟨hi6, h⟩ := ck_of h
    refine g_iald C 5 rfl hi6 dX7_keepFace_24 ?_
    have hj44 : ∀ (x7 : Int32), fX7_keepFace_J44 o0 p1 r1 r3 x7 = some res → Gw p l e R s m args below meth c 3 Z A Q 0 0 44 [(0, .ref a0), (1, .int p1)] [.int x7, .ref a0] [(a0, .inr (7, [.int (q7_thrown r3.2), .ref a0_buffer, .int (q7_length o0), .int (q7_at o0), .int (q7_from o0), .int (q7_kind o0), .int (q7_number o0), .int (q7_wrong o0), .ref a0_now, .ref a0_made, .ref a0_history, .ref a0_saved, .int (q7_entries o0), .int (q7_isSaved o0), .ref a0_closed, .ref a0_faces, .ref a0_rankOf, .ref a0_placeOf, .int (q7_faceMany r1.2), .int (q7_isLaid r1.2), .ref a0_counted, .ref a0_steps, .ref a0_onto, .ref a0_goes, .int (q7_found o0), .int (q7_images o0), .ref a0_firstImage, .int (q7_gathered o0)])), (a0_now, .inl (zI Z, 12, .inl (q7_now o0))), (a0_made, .inl (zI Z, 12, .inl (q7_made o0))), (a0_history, .inl (zI Z, 96, .inl (q7_history o0))), (a0_closed, .inl (zI Z, 256, .inl (q7_closed r1.2))), (a0_faces, .inl (zI Z, 256, .inl (q7_faces r1.2))), (a0_rankOf, .inl (zI Z, 256, .inl (q7_rankOf r1.2))), (a0_placeOf, .inl (zI Z, 256, .inl (q7_placeOf r1.2)))] := by
      intro x7 h
      unfold fX7_keepFace_J44 at h
      refine g_iconst C 2 dX7_keepFace_44 (by decide) ?_
      obtain ⟨r8, hr9, h⟩ := bd_of h
      refine g_callVi C (kX7_fails l Z a0 a0_buffer a0_now a0_made a0_history a0_saved a0_closed a0_faces a0_rankOf a0_placeOf a0_counted a0_steps a0_onto a0_goes a0_firstImage (s7_isLaid (s7_faceMany (s7_placeOf (s7_rankOf (s7_faces (s7_closed (s7_thrown o0 (q7_thrown r3.2)) (q7_closed r1.2)) (q7_faces r1.2)) (q7_rankOf r1.2)) (q7_placeOf r1.2)) (q7_faceMany r1.2)) (q7_isLaid r1.2)) x7 2 r8 hr9) 0 rfl (ci := 7) rfl rfl myX7_fails 63 mw_5_181 rfl [0] [1, 2, 3, 4, 5, 6, 7] [7, 0, 1, 2, 3, 4, 5, 6] (wr := [(a0_now, .inl (zI Z, 12, .inl (q7_now o0))), (a0_made, .inl (zI Z, 12, .inl (q7_made o0))), (a0_history, .inl (zI Z, 96, .inl (q7_history o0))), (a0_closed, .inl (zI Z, 256, .inl (q7_closed r1.2))), (a0_faces, .inl (zI Z, 256, .inl (q7_faces r1.2))), (a0_rankOf, .inl (zI Z, 256, .inl (q7_rankOf r1.2))), (a0_placeOf, .inl (zI Z, 256, .inl (q7_placeOf r1.2)))]) rfl rfl (by decide) (by decide) (by decide) [(a0, .inr (7, [.int (q7_thrown r8.2), .ref a0_buffer, .int (q7_length o0), .int (q7_at o0), .int (q7_from o0), .int (q7_kind o0), .int (q7_number o0), .int (q7_wrong o0), .ref a0_now, .ref a0_made, .ref a0_history, .ref a0_saved, .int (q7_entries o0), .int (q7_isSaved o0), .ref a0_closed, .ref a0_faces, .ref a0_rankOf, .ref a0_placeOf, .int (q7_faceMany r1.2), .int (q7_isLaid r1.2), .ref a0_counted, .ref a0_steps, .ref a0_onto, .ref a0_goes, .int (q7_found o0), .int (q7_images o0), .ref a0_firstImage, .int (q7_gathered o0)])), (a0_now, .inl (zI Z, 12, .inl (q7_now o0))), (a0_made, .inl (zI Z, 12, .inl (q7_made o0))), (a0_history, .inl (zI Z, 96, .inl (q7_history o0))), (a0_closed, .inl (zI Z, 256, .inl (q7_closed r1.2))), (a0_faces, .inl (zI Z, 256, .inl (q7_faces r1.2))), (a0_rankOf, .inl (zI Z, 256, .inl (q7_rankOf r1.2))), (a0_placeOf, .inl (zI Z, 256, .inl (q7_placeOf r1.2)))] rfl (by decide) (Nat.le_of_ble_eq_true rfl) (by rw [hR]; exact Nat.le_of_ble_eq_true rfl) (by rw [hR]; exact Nat.le_of_ble_eq_true rfl) ⟨by rw [hR]; exact Nat.le_of_ble_eq_true rfl, by rw [hR]; exact Nat.le_of_ble_eq_true rfl⟩ rfl dX7_keepFace_45 ?_
      refine g_if_eq C 53 dX7_keepFace_48 (by decide) (fun c10 => ?_) (fun c10 => ?_)
      · replace h := it_t c10 h
        refine g_aload_n C dX7_keepFace_53 rfl 0 rfl ?_
        obtain ⟨r11, hr12, h⟩ := bd_of h
        refine g_callVv C (kX7_record l Z a0 a0_buffer a0_now a0_made a0_history a0_saved a0_closed a0_faces a0_rankOf a0_placeOf a0_counted a0_steps a0_onto a0_goes a0_firstImage (s7_isLaid (s7_faceMany (s7_placeOf (s7_rankOf (s7_faces (s7_closed (s7_thrown o0 (q7_thrown r8.2)) (q7_closed r1.2)) (q7_faces r1.2)) (q7_rankOf r1.2)) (q7_placeOf r1.2)) (q7_faceMany r1.2)) (q7_isLaid r1.2)) r11 hr12) 0 rfl (ci := 7) rfl rfl myX7_record 226 mw_6_84 rfl [0, 1, 3] [2, 4, 5, 6, 7] [5, 6, 0, 7, 1, 2, 3, 4] (wr := [(a0_made, .inl (zI Z, 12, .inl (q7_made o0))), (a0_closed, .inl (zI Z, 256, .inl (q7_closed r1.2))), (a0_faces, .inl (zI Z, 256, .inl (q7_faces r1.2))), (a0_rankOf, .inl (zI Z, 256, .inl (q7_rankOf r1.2))), (a0_placeOf, .inl (zI Z, 256, .inl (q7_placeOf r1.2)))]) rfl rfl (by decide) (by decide) (by decide) [(a0, .inr (7, [.int (q7_thrown r8.2), .ref a0_buffer, .int (q7_length o0), .int (q7_at o0), .int (q7_from o0), .int (q7_kind o0), .int (q7_number o0), .int (q7_wrong o0), .ref a0_now, .ref a0_made, .ref a0_history, .ref a0_saved, .int (q7_entries r11), .int (q7_isSaved o0), .ref a0_closed, .ref a0_faces, .ref a0_rankOf, .ref a0_placeOf, .int (q7_faceMany r1.2), .int (q7_isLaid r11), .ref a0_counted, .ref a0_steps, .ref a0_onto, .ref a0_goes, .int (q7_found o0), .int (q7_images o0), .ref a0_firstImage, .int (q7_gathered o0)])), (a0_now, .inl (zI Z, 12, .inl (q7_now o0))), (a0_made, .inl (zI Z, 12, .inl (q7_made o0))), (a0_history, .inl (zI Z, 96, .inl (q7_history r11))), (a0_closed, .inl (zI Z, 256, .inl (q7_closed r1.2))), (a0_faces, .inl (zI Z, 256, .inl (q7_faces r1.2))), (a0_rankOf, .inl (zI Z, 256, .inl (q7_rankOf r1.2))), (a0_placeOf, .inl (zI Z, 256, .inl (q7_placeOf r1.2)))] rfl (by decide) (Nat.le_of_ble_eq_true rfl) (by rw [hR]; exact Nat.le_of_ble_eq_true rfl) (by rw [hR]; exact Nat.le_of_ble_eq_true rfl) ⟨by rw [hR]; exact Nat.le_of_ble_eq_true rfl, by rw [hR]; exact Nat.le_of_ble_eq_true rfl⟩ rfl dX7_keepFace_54 ?_
        refine g_aload_n C dX7_keepFace_57 rfl 0 rfl ?_
        refine g_aload_n C dX7_keepFace_58 rfl 0 rfl ?_
        refine g_get C 7 28 gin7 0 rfl rfl 15 (by decide) mw_5_100 rfl rfl dX7_keepFace_59 ?_
        refine g_iload_n C dX7_keepFace_62 rfl 1 rfl ?_
        obtain ⟨hi13, h⟩ := ck_of h
        refine g_iald C 5 rfl hi13 dX7_keepFace_63 ?_
        obtain ⟨r14, hr15, h⟩ := bd_of h
        refine g_callSi C (kX7_bits l Z ((q7_faces r1.2) (ix p1)) r14 hr15) myX7_bits 251 mw_6_164 rfl [] [0, 1, 2, 3, 4, 5, 6, 7] [0, 1, 2, 3, 4, 5, 6, 7] (wr := [(a0, .inr (7, [.int (q7_thrown r8.2), .ref a0_buffer, .int (q7_length o0), .int (q7_at o0), .int (q7_from o0), .int (q7_kind o0), .int (q7_number o0), .int (q7_wrong o0), .ref a0_now, .ref a0_made, .ref a0_history, .ref a0_saved, .int (q7_entries r11), .int (q7_isSaved o0), .ref a0_closed, .ref a0_faces, .ref a0_rankOf, .ref a0_placeOf, .int (q7_faceMany r1.2), .int (q7_isLaid r11), .ref a0_counted, .ref a0_steps, .ref a0_onto, .ref a0_goes, .int (q7_found o0), .int (q7_images o0), .ref a0_firstImage, .int (q7_gathered o0)])), (a0_now, .inl (zI Z, 12, .inl (q7_now o0))), (a0_made, .inl (zI Z, 12, .inl (q7_made o0))), (a0_history, .inl (zI Z, 96, .inl (q7_history r11))), (a0_closed, .inl (zI Z, 256, .inl (q7_closed r1.2))), (a0_faces, .inl (zI Z, 256, .inl (q7_faces r1.2))), (a0_rankOf, .inl (zI Z, 256, .inl (q7_rankOf r1.2))), (a0_placeOf, .inl (zI Z, 256, .inl (q7_placeOf r1.2)))]) rfl rfl (by decide) (by decide) (by decide) [(a0, .inr (7, [.int (q7_thrown r8.2), .ref a0_buffer, .int (q7_length o0), .int (q7_at o0), .int (q7_from o0), .int (q7_kind o0), .int (q7_number o0), .int (q7_wrong o0), .ref a0_now, .ref a0_made, .ref a0_history, .ref a0_saved, .int (q7_entries r11), .int (q7_isSaved o0), .ref a0_closed, .ref a0_faces, .ref a0_rankOf, .ref a0_placeOf, .int (q7_faceMany r1.2), .int (q7_isLaid r11), .ref a0_counted, .ref a0_steps, .ref a0_onto, .ref a0_goes, .int (q7_found o0), .int (q7_images o0), .ref a0_firstImage, .int (q7_gathered o0)])), (a0_now, .inl (zI Z, 12, .inl (q7_now o0))), (a0_made, .inl (zI Z, 12, .inl (q7_made o0))), (a0_history, .inl (zI Z, 96, .inl (q7_history r11))), (a0_closed, .inl (zI Z, 256, .inl (q7_closed r1.2))), (a0_faces, .inl (zI Z, 256, .inl (q7_faces r1.2))), (a0_rankOf, .inl (zI Z, 256, .inl (q7_rankOf r1.2))), (a0_placeOf, .inl (zI Z, 256, .inl (q7_placeOf r1.2)))] rfl (by decide) (Nat.le_of_ble_eq_true rfl) (by rw [hR]; exact Nat.le_of_ble_eq_true rfl) (by rw [hR]; exact Nat.le_of_ble_eq_true rfl) ⟨by rw [hR]; exact Nat.le_of_ble_eq_true rfl, by rw [hR]; exact Nat.le_of_ble_eq_true rfl⟩ rfl dX7_keepFace_64 ?_
        obtain ⟨r16, hr17, h⟩ := bd_of h
        refine g_callVv C (kX7_begin l Z a0 a0_buffer a0_now a0_made a0_history a0_saved a0_closed a0_faces a0_rankOf a0_placeOf a0_counted a0_steps a0_onto a0_goes a0_firstImage (s7_isLaid (s7_faceMany (s7_placeOf (s7_rankOf (s7_faces (s7_closed (s7_entries (s7_history (s7_thrown o0 (q7_thrown r8.2)) (q7_history r11)) (q7_entries r11)) (q7_closed r1.2)) (q7_faces r1.2)) (q7_rankOf r1.2)) (q7_placeOf r1.2)) (q7_faceMany r1.2)) (q7_isLaid r11)) r14 r16 hr17) 0 rfl (ci := 7) rfl rfl myX7_begin 123 mw_6_5 rfl [0, 2] [1, 3, 4, 5, 6, 7] [6, 0, 7, 1, 2, 3, 4, 5] (wr := [(a0_now, .inl (zI Z, 12, .inl (q7_now o0))), (a0_history, .inl (zI Z, 96, .inl (q7_history r11))), (a0_closed, .inl (zI Z, 256, .inl (q7_closed r1.2))), (a0_faces, .inl (zI Z, 256, .inl (q7_faces r1.2))), (a0_rankOf, .inl (zI Z, 256, .inl (q7_rankOf r1.2))), (a0_placeOf, .inl (zI Z, 256, .inl (q7_placeOf r1.2)))]) rfl rfl (by decide) (by decide) (by decide) [(a0, .inr (7, [.int (q7_thrown r8.2), .ref a0_buffer, .int (q7_length o0), .int (q7_at o0), .int (q7_from o0), .int (q7_kind o0), .int (q7_number o0), .int (q7_wrong o0), .ref a0_now, .ref a0_made, .ref a0_history, .ref a0_saved, .int (q7_entries r11), .int (q7_isSaved o0), .ref a0_closed, .ref a0_faces, .ref a0_rankOf, .ref a0_placeOf, .int (q7_faceMany r1.2), .int (q7_isLaid r11), .ref a0_counted, .ref a0_steps, .ref a0_onto, .ref a0_goes, .int (q7_found o0), .int (q7_images o0), .ref a0_firstImage, .int (q7_gathered o0)])), (a0_now, .inl (zI Z, 12, .inl (q7_now o0))), (a0_made, .inl (zI Z, 12, .inl (q7_made r16))), (a0_history, .inl (zI Z, 96, .inl (q7_history r11))), (a0_closed, .inl (zI Z, 256, .inl (q7_closed r1.2))), (a0_faces, .inl (zI Z, 256, .inl (q7_faces r1.2))), (a0_rankOf, .inl (zI Z, 256, .inl (q7_rankOf r1.2))), (a0_placeOf, .inl (zI Z, 256, .inl (q7_placeOf r1.2)))] rfl (by decide) (Nat.le_of_ble_eq_true rfl) (by rw [hR]; exact Nat.le_of_ble_eq_true rfl) (by rw [hR]; exact Nat.le_of_ble_eq_true rfl) ⟨by rw [hR]; exact Nat.le_of_ble_eq_true rfl, by rw [hR]; exact Nat.le_of_ble_eq_true rfl⟩ rfl dX7_keepFace_67 ?_
        refine g_iconst C 0 dX7_keepFace_70 (by decide) ?_
        refine g_istore_n C dX7_keepFace_71 rfl (by decide) [(2, .int 0), (0, .ref a0), (1, .int p1)] rfl ?_
        refine g_lv [1, 2, 0] [(0, .ref a0), (1, .int p1), (2, .int 0)] rfl ?_
        refine g_loop (lvf := fun v18 => [(0, .ref a0), (1, .int p1), (2, .int v18.1)]) (wsf := fun v18 => [(a0, .inr (7, [.int (q7_thrown r8.2), .ref a0_buffer, .int (q7_length o0), .int (q7_at o0), .int (q7_from o0), .int (q7_kind o0), .int (q7_number o0), .int (q7_wrong o0), .ref a0_now, .ref a0_made, .ref a0_history, .ref a0_saved, .int (q7_entries r11), .int (q7_isSaved o0), .ref a0_closed, .ref a0_faces, .ref a0_rankOf, .ref a0_placeOf, .int (q7_faceMany r1.2), .int (q7_isLaid r11), .ref a0_counted, .ref a0_steps, .ref a0_onto, .ref a0_goes, .int (q7_found o0), .int (q7_images o0), .ref a0_firstImage, .int (q7_gathered o0)])), (a0_now, .inl (zI Z, 12, .inl (q7_now o0))), (a0_made, .inl (zI Z, 12, .inl v18.2)), (a0_history, .inl (zI Z, 96, .inl (q7_history r11))), (a0_closed, .inl (zI Z, 256, .inl (q7_closed r1.2))), (a0_faces, .inl (zI Z, 256, .inl (q7_faces r1.2))), (a0_rankOf, .inl (zI Z, 256, .inl (q7_rankOf r1.2))), (a0_placeOf, .inl (zI Z, 256, .inl (q7_placeOf r1.2)))]) h (fun v18 y1 h hk1 hx1 => ?_)
        refine g_eq (lv1 := [(0, .ref a0), (1, .int p1), (2, .int v18.1)]) (st1 := []) (ws1 := [(a0, .inr (7, [.int (q7_thrown r8.2), .ref a0_buffer, .int (q7_length o0), .int (q7_at o0), .int (q7_from o0), .int (q7_kind o0), .int (q7_number o0), .int (q7_wrong o0), .ref a0_now, .ref a0_made, .ref a0_history, .ref a0_saved, .int (q7_entries r11), .int (q7_isSaved o0), .ref a0_closed, .ref a0_faces, .ref a0_rankOf, .ref a0_placeOf, .int (q7_faceMany r1.2), .int (q7_isLaid r11), .ref a0_counted, .ref a0_steps, .ref a0_onto, .ref a0_goes, .int (q7_found o0), .int (q7_images o0), .ref a0_firstImage, .int (q7_gathered o0)])), (a0_now, .inl (zI Z, 12, .inl (q7_now o0))), (a0_made, .inl (zI Z, 12, .inl v18.2)), (a0_history, .inl (zI Z, 96, .inl (q7_history r11))), (a0_closed, .inl (zI Z, 256, .inl (q7_closed r1.2))), (a0_faces, .inl (zI Z, 256, .inl (q7_faces r1.2))), (a0_rankOf, .inl (zI Z, 256, .inl (q7_rankOf r1.2))), (a0_placeOf, .inl (zI Z, 256, .inl (q7_placeOf r1.2)))]) rfl rfl rfl rfl ?_
        unfold fX7_keepFace_L72 at h
        refine g_iload_n C dX7_keepFace_72 rfl 2 rfl ?_
        refine g_aload_n C dX7_keepFace_73 rfl 0 rfl ?_
        refine g_get C 7 214 gin7 0 rfl rfl 18 (by decide) mw_5_103 rfl rfl dX7_keepFace_74 ?_
        refine g_icmp_ge C 114 dX7_keepFace_77 (by decide) (fun c19 => ?_) (fun c19 => ?_)
        · replace h := it_t c19 h
          obtain ⟨r20, h, hy⟩ := ex_of h
          rw [hx1 r20 hy] at h
          refine g_aload_n C dX7_keepFace_114 rfl 0 rfl ?_
          obtain ⟨r21, hr22, h⟩ := bd_of h
          refine g_callVv C (kX7_takeMade l Z a0 a0_buffer a0_now a0_made a0_history a0_saved a0_closed a0_faces a0_rankOf a0_placeOf a0_counted a0_steps a0_onto a0_goes a0_firstImage (s7_isLaid (s7_faceMany (s7_placeOf (s7_rankOf (s7_faces (s7_closed (s7_entries (s7_history (s7_made (s7_thrown o0 (q7_thrown r8.2)) v18.2) (q7_history r11)) (q7_entries r11)) (q7_closed r1.2)) (q7_faces r1.2)) (q7_rankOf r1.2)) (q7_placeOf r1.2)) (q7_faceMany r1.2)) (q7_isLaid r11)) r21 hr22) 0 rfl (ci := 7) rfl rfl myX7_takeMade 187 mw_6_52 rfl [0, 1, 2] [3, 4, 5, 6, 7] [5, 6, 7, 0, 1, 2, 3, 4] (wr := [(a0_history, .inl (zI Z, 96, .inl (q7_history r11))), (a0_closed, .inl (zI Z, 256, .inl (q7_closed r1.2))), (a0_faces, .inl (zI Z, 256, .inl (q7_faces r1.2))), (a0_rankOf, .inl (zI Z, 256, .inl (q7_rankOf r1.2))), (a0_placeOf, .inl (zI Z, 256, .inl (q7_placeOf r1.2)))]) rfl rfl (by decide) (by decide) (by decide) [(a0, .inr (7, [.int (q7_thrown r8.2), .ref a0_buffer, .int (q7_length o0), .int (q7_at o0), .int (q7_from o0), .int (q7_kind o0), .int (q7_number o0), .int (q7_wrong o0), .ref a0_now, .ref a0_made, .ref a0_history, .ref a0_saved, .int (q7_entries r11), .int (q7_isSaved o0), .ref a0_closed, .ref a0_faces, .ref a0_rankOf, .ref a0_placeOf, .int (q7_faceMany r1.2), .int (q7_isLaid r21), .ref a0_counted, .ref a0_steps, .ref a0_onto, .ref a0_goes, .int (q7_found o0), .int (q7_images o0), .ref a0_firstImage, .int (q7_gathered o0)])), (a0_now, .inl (zI Z, 12, .inl (q7_now r21))), (a0_made, .inl (zI Z, 12, .inl v18.2)), (a0_history, .inl (zI Z, 96, .inl (q7_history r11))), (a0_closed, .inl (zI Z, 256, .inl (q7_closed r1.2))), (a0_faces, .inl (zI Z, 256, .inl (q7_faces r1.2))), (a0_rankOf, .inl (zI Z, 256, .inl (q7_rankOf r1.2))), (a0_placeOf, .inl (zI Z, 256, .inl (q7_placeOf r1.2)))] rfl (by decide) (Nat.le_of_ble_eq_true rfl) (by rw [hR]; exact Nat.le_of_ble_eq_true rfl) (by rw [hR]; exact Nat.le_of_ble_eq_true rfl) ⟨by rw [hR]; exact Nat.le_of_ble_eq_true rfl, by rw [hR]; exact Nat.le_of_ble_eq_true rfl⟩ rfl dX7_keepFace_115 ?_
          refine g_aload_n C dX7_keepFace_118 rfl 0 rfl ?_
          refine g_get C 7 13 gin7 0 rfl rfl 8 (by decide) mw_5_93 rfl rfl dX7_keepFace_119 ?_
          refine g_iconst C 1 dX7_keepFace_122 (by decide) ?_
          refine g_iald C 1 rfl (by decide) dX7_keepFace_123 ?_
          obtain rfl := Option.some.inj h
          subst hQ
          exact g_iret C rfl hr hlk dX7_keepFace_124 [0, 1, 2, 3, 4, 5, 6, 7] rfl (by decide)
        · replace h := it_f c19 h
          refine g_aload_n C dX7_keepFace_80 rfl 0 rfl ?_
          refine g_iload_n C dX7_keepFace_81 rfl 1 rfl ?_
          refine g_iload_n C dX7_keepFace_82 rfl 2 rfl ?_
          obtain ⟨r23, hr24, h⟩ := bd_of h
          refine g_callVi C (kX7_covers l Z a0 a0_buffer a0_now a0_made a0_history a0_saved a0_closed a0_faces a0_rankOf a0_placeOf a0_counted a0_steps a0_onto a0_goes a0_firstImage (s7_isLaid (s7_faceMany (s7_placeOf (s7_rankOf (s7_faces (s7_closed (s7_entries (s7_history (s7_made (s7_thrown o0 (q7_thrown r8.2)) v18.2) (q7_history r11)) (q7_entries r11)) (q7_closed r1.2)) (q7_faces r1.2)) (q7_rankOf r1.2)) (q7_placeOf r1.2)) (q7_faceMany r1.2)) (q7_isLaid r11)) p1 v18.1 r23 hr24) 0 rfl (ci := 7) rfl rfl myX7_covers 241 mw_6_152 rfl [0, 4, 5] [1, 2, 3, 6, 7] [5, 0, 1, 2, 6, 7, 3, 4] (wr := [(a0_now, .inl (zI Z, 12, .inl (q7_now o0))), (a0_made, .inl (zI Z, 12, .inl v18.2)), (a0_history, .inl (zI Z, 96, .inl (q7_history r11))), (a0_rankOf, .inl (zI Z, 256, .inl (q7_rankOf r1.2))), (a0_placeOf, .inl (zI Z, 256, .inl (q7_placeOf r1.2)))]) rfl rfl (by decide) (by decide) (by decide) [(a0, .inr (7, [.int (q7_thrown r8.2), .ref a0_buffer, .int (q7_length o0), .int (q7_at o0), .int (q7_from o0), .int (q7_kind o0), .int (q7_number o0), .int (q7_wrong o0), .ref a0_now, .ref a0_made, .ref a0_history, .ref a0_saved, .int (q7_entries r11), .int (q7_isSaved o0), .ref a0_closed, .ref a0_faces, .ref a0_rankOf, .ref a0_placeOf, .int (q7_faceMany r1.2), .int (q7_isLaid r11), .ref a0_counted, .ref a0_steps, .ref a0_onto, .ref a0_goes, .int (q7_found o0), .int (q7_images o0), .ref a0_firstImage, .int (q7_gathered o0)])), (a0_now, .inl (zI Z, 12, .inl (q7_now o0))), (a0_made, .inl (zI Z, 12, .inl v18.2)), (a0_history, .inl (zI Z, 96, .inl (q7_history r11))), (a0_closed, .inl (zI Z, 256, .inl (q7_closed r1.2))), (a0_faces, .inl (zI Z, 256, .inl (q7_faces r1.2))), (a0_rankOf, .inl (zI Z, 256, .inl (q7_rankOf r1.2))), (a0_placeOf, .inl (zI Z, 256, .inl (q7_placeOf r1.2)))] rfl (by decide) (Nat.le_of_ble_eq_true rfl) (by rw [hR]; exact Nat.le_of_ble_eq_true rfl) (by rw [hR]; exact Nat.le_of_ble_eq_true rfl) ⟨by rw [hR]; exact Nat.le_of_ble_eq_true rfl, by rw [hR]; exact Nat.le_of_ble_eq_true rfl⟩ rfl dX7_keepFace_83 ?_
          refine g_if_eq C 108 dX7_keepFace_86 (by decide) (fun c25 => ?_) (fun c25 => ?_)
          · replace h := it_t c25 h
            refine g_iinc C (v18.1 + 1) dX7_keepFace_108 2 rfl rfl (by decide) [(2, .int (v18.1 + 1)), (0, .ref a0), (1, .int p1)] rfl ?_
            refine g_goto C 72 dX7_keepFace_111 (by decide) ?_
            refine g_lv [1, 2, 0] [(0, .ref a0), (1, .int p1), (2, .int (v18.1 + 1))] rfl ?_
            exact hk1 ((v18.1 + 1), v18.2) (Option.some.inj h).symm
          · replace h := it_f c25 h
            refine g_aload_n C dX7_keepFace_89 rfl 0 rfl ?_
            refine g_aload_n C dX7_keepFace_90 rfl 0 rfl ?_
            refine g_get C 7 28 gin7 0 rfl rfl 15 (by decide) mw_5_100 rfl rfl dX7_keepFace_91 ?_
            refine g_iload_n C dX7_keepFace_94 rfl 2 rfl ?_
            obtain ⟨hi26, h⟩ := ck_of h
            refine g_iald C 5 rfl hi26 dX7_keepFace_95 ?_
            refine g_aload_n C dX7_keepFace_96 rfl 0 rfl ?_
            refine g_get C 7 28 gin7 0 rfl rfl 15 (by decide) mw_5_100 rfl rfl dX7_keepFace_97 ?_
            refine g_iload_n C dX7_keepFace_100 rfl 1 rfl ?_
            obtain ⟨hi27, h⟩ := ck_of h
            refine g_iald C 5 rfl hi27 dX7_keepFace_101 ?_
            obtain ⟨r28, hr29, h⟩ := bd_of h
            refine g_callSi C (kX7_within l Z ((q7_faces r1.2) (ix v18.1)) ((q7_faces r1.2) (ix p1)) r28 hr29) myX7_within 260 mw_6_178 rfl [] [0, 1, 2, 3, 4, 5, 6, 7] [0, 1, 2, 3, 4, 5, 6, 7] (wr := [(a0, .inr (7, [.int (q7_thrown r8.2), .ref a0_buffer, .int (q7_length o0), .int (q7_at o0), .int (q7_from o0), .int (q7_kind o0), .int (q7_number o0), .int (q7_wrong o0), .ref a0_now, .ref a0_made, .ref a0_history, .ref a0_saved, .int (q7_entries r11), .int (q7_isSaved o0), .ref a0_closed, .ref a0_faces, .ref a0_rankOf, .ref a0_placeOf, .int (q7_faceMany r1.2), .int (q7_isLaid r11), .ref a0_counted, .ref a0_steps, .ref a0_onto, .ref a0_goes, .int (q7_found o0), .int (q7_images o0), .ref a0_firstImage, .int (q7_gathered o0)])), (a0_now, .inl (zI Z, 12, .inl (q7_now o0))), (a0_made, .inl (zI Z, 12, .inl v18.2)), (a0_history, .inl (zI Z, 96, .inl (q7_history r11))), (a0_closed, .inl (zI Z, 256, .inl (q7_closed r1.2))), (a0_faces, .inl (zI Z, 256, .inl (q7_faces r1.2))), (a0_rankOf, .inl (zI Z, 256, .inl (q7_rankOf r1.2))), (a0_placeOf, .inl (zI Z, 256, .inl (q7_placeOf r1.2)))]) rfl rfl (by decide) (by decide) (by decide) [(a0, .inr (7, [.int (q7_thrown r8.2), .ref a0_buffer, .int (q7_length o0), .int (q7_at o0), .int (q7_from o0), .int (q7_kind o0), .int (q7_number o0), .int (q7_wrong o0), .ref a0_now, .ref a0_made, .ref a0_history, .ref a0_saved, .int (q7_entries r11), .int (q7_isSaved o0), .ref a0_closed, .ref a0_faces, .ref a0_rankOf, .ref a0_placeOf, .int (q7_faceMany r1.2), .int (q7_isLaid r11), .ref a0_counted, .ref a0_steps, .ref a0_onto, .ref a0_goes, .int (q7_found o0), .int (q7_images o0), .ref a0_firstImage, .int (q7_gathered o0)])), (a0_now, .inl (zI Z, 12, .inl (q7_now o0))), (a0_made, .inl (zI Z, 12, .inl v18.2)), (a0_history, .inl (zI Z, 96, .inl (q7_history r11))), (a0_closed, .inl (zI Z, 256, .inl (q7_closed r1.2))), (a0_faces, .inl (zI Z, 256, .inl (q7_faces r1.2))), (a0_rankOf, .inl (zI Z, 256, .inl (q7_rankOf r1.2))), (a0_placeOf, .inl (zI Z, 256, .inl (q7_placeOf r1.2)))] rfl (by decide) (Nat.le_of_ble_eq_true rfl) (by rw [hR]; exact Nat.le_of_ble_eq_true rfl) (by rw [hR]; exact Nat.le_of_ble_eq_true rfl) ⟨by rw [hR]; exact Nat.le_of_ble_eq_true rfl, by rw [hR]; exact Nat.le_of_ble_eq_true rfl⟩ rfl dX7_keepFace_102 ?_
            obtain ⟨r30, hr31, h⟩ := bd_of h
            refine g_callVv C (kX7_add l Z a0 a0_buffer a0_now a0_made a0_history a0_saved a0_closed a0_faces a0_rankOf a0_placeOf a0_counted a0_steps a0_onto a0_goes a0_firstImage (s7_isLaid (s7_faceMany (s7_placeOf (s7_rankOf (s7_faces (s7_closed (s7_entries (s7_history (s7_made (s7_thrown o0 (q7_thrown r8.2)) v18.2) (q7_history r11)) (q7_entries r11)) (q7_closed r1.2)) (q7_faces r1.2)) (q7_rankOf r1.2)) (q7_placeOf r1.2)) (q7_faceMany r1.2)) (q7_isLaid r11)) r28 r30 hr31) 0 rfl (ci := 7) rfl rfl myX7_add 130 mw_6_17 rfl [0, 2] [1, 3, 4, 5, 6, 7] [6, 0, 7, 1, 2, 3, 4, 5] (wr := [(a0_now, .inl (zI Z, 12, .inl (q7_now o0))), (a0_history, .inl (zI Z, 96, .inl (q7_history r11))), (a0_closed, .inl (zI Z, 256, .inl (q7_closed r1.2))), (a0_faces, .inl (zI Z, 256, .inl (q7_faces r1.2))), (a0_rankOf, .inl (zI Z, 256, .inl (q7_rankOf r1.2))), (a0_placeOf, .inl (zI Z, 256, .inl (q7_placeOf r1.2)))]) rfl rfl (by decide) (by decide) (by decide) [(a0, .inr (7, [.int (q7_thrown r8.2), .ref a0_buffer, .int (q7_length o0), .int (q7_at o0), .int (q7_from o0), .int (q7_kind o0), .int (q7_number o0), .int (q7_wrong o0), .ref a0_now, .ref a0_made, .ref a0_history, .ref a0_saved, .int (q7_entries r11), .int (q7_isSaved o0), .ref a0_closed, .ref a0_faces, .ref a0_rankOf, .ref a0_placeOf, .int (q7_faceMany r1.2), .int (q7_isLaid r11), .ref a0_counted, .ref a0_steps, .ref a0_onto, .ref a0_goes, .int (q7_found o0), .int (q7_images o0), .ref a0_firstImage, .int (q7_gathered o0)])), (a0_now, .inl (zI Z, 12, .inl (q7_now o0))), (a0_made, .inl (zI Z, 12, .inl (q7_made r30))), (a0_history, .inl (zI Z, 96, .inl (q7_history r11))), (a0_closed, .inl (zI Z, 256, .inl (q7_closed r1.2))), (a0_faces, .inl (zI Z, 256, .inl (q7_faces r1.2))), (a0_rankOf, .inl (zI Z, 256, .inl (q7_rankOf r1.2))), (a0_placeOf, .inl (zI Z, 256, .inl (q7_placeOf r1.2)))] rfl (by decide) (Nat.le_of_ble_eq_true rfl) (by rw [hR]; exact Nat.le_of_ble_eq_true rfl) (by rw [hR]; exact Nat.le_of_ble_eq_true rfl) ⟨by rw [hR]; exact Nat.le_of_ble_eq_true rfl, by rw [hR]; exact Nat.le_of_ble_eq_true rfl⟩ rfl dX7_keepFace_105 ?_
            refine g_iinc C (v18.1 + 1) dX7_keepFace_108 2 rfl rfl (by decide) [(2, .int (v18.1 + 1)), (0, .ref a0), (1, .int p1)] rfl ?_
            refine g_goto C 72 dX7_keepFace_111 (by decide) ?_
            refine g_lv [1, 2, 0] [(0, .ref a0), (1, .int p1), (2, .int (v18.1 + 1))] rfl ?_
            exact hk1 ((v18.1 + 1), (q7_made r30)) (Option.some.inj h).symm
      · replace h := it_f c10 h
        refine g_iconst C 0 dX7_keepFace_51 (by decide) ?_
        obtain rfl := Option.some.inj h
        subst hQ
        exact g_iret C rfl hr hlk dX7_keepFace_52 [0, 1, 2, 3, 4, 5, 6, 7] rfl (by decide)
    have hj43 : fX7_keepFace_J43 o0 p1 r1 r3 = some res → Gw p l e R s m args below meth c 3 Z A Q 0 0 43 [(0, .ref a0), (1, .int p1)] [.ref a0] [(a0, .inr (7, [.int (q7_thrown r3.2), .ref a0_buffer, .int (q7_length o0), .int (q7_at o0), .int (q7_from o0), .int (q7_kind o0), .int (q7_number o0), .int (q7_wrong o0), .ref a0_now, .ref a0_made, .ref a0_history, .ref a0_saved, .int (q7_entries o0), .int (q7_isSaved o0), .ref a0_closed, .ref a0_faces, .ref a0_rankOf, .ref a0_placeOf, .int (q7_faceMany r1.2), .int (q7_isLaid r1.2), .ref a0_counted, .ref a0_steps, .ref a0_onto, .ref a0_goes, .int (q7_found o0), .int (q7_images o0), .ref a0_firstImage, .int (q7_gathered o0)])), (a0_now, .inl (zI Z, 12, .inl (q7_now o0))), (a0_made, .inl (zI Z, 12, .inl (q7_made o0))), (a0_history, .inl (zI Z, 96, .inl (q7_history o0))), (a0_closed, .inl (zI Z, 256, .inl (q7_closed r1.2))), (a0_faces, .inl (zI Z, 256, .inl (q7_faces r1.2))), (a0_rankOf, .inl (zI Z, 256, .inl (q7_rankOf r1.2))), (a0_placeOf, .inl (zI Z, 256, .inl (q7_placeOf r1.2)))] := by
      intro h
      unfold fX7_keepFace_J43 at h
      refine g_iconst C 0 dX7_keepFace_43 (by decide) ?_
      exact hj44 0 h
    refine g_if_eq C 43 dX7_keepFace_25 (by decide) (fun c32 => ?_) (fun c32 => ?_)
    · replace h := it_t c32 h
      exact hj43 h
    · replace h := it_f c32 h
      refine g_aload_n C dX7_keepFace_28 rfl 0 rfl ?_
      refine g_iload_n C dX7_keepFace_29 rfl 1 rfl ?_
      refine g_iconst C 0 dX7_keepFace_30 (by decide) ?_
      obtain ⟨r33, hr34, h⟩ := bd_of h
      refine g_callVi C (kX7_coverCount l Z a0 a0_buffer a0_now a0_made a0_history a0_saved a0_closed a0_faces a0_rankOf a0_placeOf a0_counted a0_steps a0_onto a0_goes a0_firstImage (s7_isLaid (s7_faceMany (s7_placeOf (s7_rankOf (s7_faces (s7_closed (s7_thrown o0 (q7_thrown r3.2)) (q7_closed r1.2)) (q7_faces r1.2)) (q7_rankOf r1.2)) (q7_placeOf r1.2)) (q7_faceMany r1.2)) (q7_isLaid r1.2)) p1 0 r33 hr34) 0 rfl (ci := 7) rfl rfl myX7_coverCount 244 mw_6_148 rfl [0, 4, 5] [1, 2, 3, 6, 7] [5, 0, 1, 2, 6, 7, 3, 4] (wr := [(a0_now, .inl (zI Z, 12, .inl (q7_now o0))), (a0_made, .inl (zI Z, 12, .inl (q7_made o0))), (a0_history, .inl (zI Z, 96, .inl (q7_history o0))), (a0_rankOf, .inl (zI Z, 256, .inl (q7_rankOf r1.2))), (a0_placeOf, .inl (zI Z, 256, .inl (q7_placeOf r1.2)))]) rfl rfl (by decide) (by decide) (by decide) [(a0, .inr (7, [.int (q7_thrown r3.2), .ref a0_buffer, .int (q7_length o0), .int (q7_at o0), .int (q7_from o0), .int (q7_kind o0), .int (q7_number o0), .int (q7_wrong o0), .ref a0_now, .ref a0_made, .ref a0_history, .ref a0_saved, .int (q7_entries o0), .int (q7_isSaved o0), .ref a0_closed, .ref a0_faces, .ref a0_rankOf, .ref a0_placeOf, .int (q7_faceMany r1.2), .int (q7_isLaid r1.2), .ref a0_counted, .ref a0_steps, .ref a0_onto, .ref a0_goes, .int (q7_found o0), .int (q7_images o0), .ref a0_firstImage, .int (q7_gathered o0)])), (a0_now, .inl (zI Z, 12, .inl (q7_now o0))), (a0_made, .inl (zI Z, 12, .inl (q7_made o0))), (a0_history, .inl (zI Z, 96, .inl (q7_history o0))), (a0_closed, .inl (zI Z, 256, .inl (q7_closed r1.2))), (a0_faces, .inl (zI Z, 256, .inl (q7_faces r1.2))), (a0_rankOf, .inl (zI Z, 256, .inl (q7_rankOf r1.2))), (a0_placeOf, .inl (zI Z, 256, .inl (q7_placeOf r1.2)))] rfl (by decide) (Nat.le_of_ble_eq_true rfl) (by rw [hR]; exact Nat.le_of_ble_eq_true rfl) (by rw [hR]; exact Nat.le_of_ble_eq_true rfl) ⟨by rw [hR]; exact Nat.le_of_ble_eq_true rfl, by rw [hR]; exact Nat.le_of_ble_eq_true rfl⟩ rfl dX7_keepFace_31 ?_
      refine g_bipush C 10 dX7_keepFace_34 (by decide) ?_
      refine g_icmp_gt C 43 dX7_keepFace_36 (by decide) (fun c35 => ?_) (fun c35 => ?_)
      · replace h := it_t c35 h
        exact hj43 h
      · replace h := it_f c35 h
        refine g_iconst C 1 dX7_keepFace_39 (by decide) ?_
        refine g_goto C 44 dX7_keepFace_40 (by decide) ?_
        exact hj44 1 h
def fX7_figure_L110 (o0 : OX7) (p1 : Int32) (r6 : OX7) (r14 : Int32 × OX7) (r17 : OX7) (v21 : Int32 × (Nat → Int32)) (v30 : Int32 × Int32 × Int32) : Option ((Int32 × Int32 × Int32) ⊕ ((Int32 × (Nat → Int32)) ⊕ (Int32 × OX7))) :=
  if (q7_faceMany r6) ≤ v30.2.2 then (ex ((fX7_add (s7_isLaid (s7_faceMany (s7_placeOf (s7_rankOf (s7_faces (s7_closed (s7_entries (s7_history (s7_made (s7_thrown o0 (q7_thrown r14.2)) v21.2) (q7_history r17)) (q7_entries r17)) (q7_closed r6)) (q7_faces r6)) (q7_rankOf r6)) (q7_placeOf r6)) (q7_faceMany r6)) (q7_isLaid r17)) v30.1).bind fun r33 =>
  (some (.inl ((v21.1 + 1), (q7_made r33))))))
  else ((fX7_covers (s7_isLaid (s7_faceMany (s7_placeOf (s7_rankOf (s7_faces (s7_closed (s7_entries (s7_history (s7_made (s7_thrown o0 (q7_thrown r14.2)) v21.2) (q7_history r17)) (q7_entries r17)) (q7_closed r6)) (q7_faces r6)) (q7_rankOf r6)) (q7_placeOf r6)) (q7_faceMany r6)) (q7_isLaid r17)) v30.2.2 ((q7_placeOf r6) (ix ((q7_closed r6) (ix (jshl 1 p1)))))).bind fun r35 =>
  (if r35 = 0 then (some (.inl (v30.1, v30.2.1, (v30.2.2 + 1))))
  else (ck (okI (2 + v21.1) 12) (ck (okI v30.2.2 256) ((fX7_holds ((q7_now o0) (ix (2 + v21.1))) ((q7_faces r6) (ix v30.2.2))).bind fun r40 =>
  (if r40 = 0 then (some (.inl ((v30.1 ||| 0), (v30.2.1 + 1), (v30.2.2 + 1))))
  else (some (.inl ((v30.1 ||| (jshl 1 v30.2.1)), (v30.2.1 + 1), (v30.2.2 + 1))))))))))
def fX7_figure_L74 (o0 : OX7) (p1 : Int32) (r6 : OX7) (r14 : Int32 × OX7) (r17 : OX7) (v21 : Int32 × (Nat → Int32)) : Option ((Int32 × (Nat → Int32)) ⊕ (Int32 × OX7)) :=
  if ((q7_now o0) (ix 1)) ≤ v21.1 then (ex ((fX7_takeMade (s7_isLaid (s7_faceMany (s7_placeOf (s7_rankOf (s7_faces (s7_closed (s7_entries (s7_history (s7_made (s7_thrown o0 (q7_thrown r14.2)) v21.2) (q7_history r17)) (q7_entries r17)) (q7_closed r6)) (q7_faces r6)) (q7_rankOf r6)) (q7_placeOf r6)) (q7_faceMany r6)) (q7_isLaid r17))).bind fun r24 =>
  (some (((q7_now r24) (ix 0)), (s7_isLaid (s7_faceMany (s7_placeOf (s7_rankOf (s7_faces (s7_closed (s7_entries (s7_history (s7_made (s7_now (s7_thrown o0 (q7_thrown r14.2)) (q7_now r24)) v21.2) (q7_history r17)) (q7_entries r17)) (q7_closed r6)) (q7_faces r6)) (q7_rankOf r6)) (q7_placeOf r6)) (q7_faceMany r6)) (q7_isLaid r24))))))
  else (ck (okI (2 + v21.1) 12) ((fX7_has ((q7_now o0) (ix (2 + v21.1))) p1).bind fun r27 =>
  (if r27 = 0 then (some (.inl ((v21.1 + 1), v21.2)))
  else (lp (fX7_figure_L110 o0 p1 r6 r14 r17 v21) lpN (0, 0, 0)))))
def fX7_figure (o0 : OX7) (p1 : Int32) : Option (Int32 × OX7) :=
  (fX7_isPoint (s7_thrown o0 0) p1).bind fun r1 =>
  ((fX7_fails (s7_thrown o0 0) r1 1).bind fun r3 =>
  (if r3.1 = 0 then ((fX7_lay (s7_thrown o0 (q7_thrown r3.2))).bind fun r6 =>
  (ck (okI (jshl 1 p1) 256) (ck (okI ((q7_closed r6) (ix (jshl 1 p1))) 256) ((fX7_coverCount (s7_isLaid (s7_faceMany (s7_placeOf (s7_rankOf (s7_faces (s7_closed (s7_thrown o0 (q7_thrown r3.2)) (q7_closed r6)) (q7_faces r6)) (q7_rankOf r6)) (q7_placeOf r6)) (q7_faceMany r6)) (q7_isLaid r6)) ((q7_placeOf r6) (ix ((q7_closed r6) (ix (jshl 1 p1))))) 1).bind fun r10 =>
  ((fX7_in r10 1 8).bind fun r12 =>
  ((fX7_fails (s7_isLaid (s7_faceMany (s7_placeOf (s7_rankOf (s7_faces (s7_closed (s7_thrown o0 (q7_thrown r3.2)) (q7_closed r6)) (q7_faces r6)) (q7_rankOf r6)) (q7_placeOf r6)) (q7_faceMany r6)) (q7_isLaid r6)) r12 2).bind fun r14 =>
  (if r14.1 = 0 then ((fX7_record (s7_isLaid (s7_faceMany (s7_placeOf (s7_rankOf (s7_faces (s7_closed (s7_thrown o0 (q7_thrown r14.2)) (q7_closed r6)) (q7_faces r6)) (q7_rankOf r6)) (q7_placeOf r6)) (q7_faceMany r6)) (q7_isLaid r6))).bind fun r17 =>
  ((fX7_begin (s7_isLaid (s7_faceMany (s7_placeOf (s7_rankOf (s7_faces (s7_closed (s7_entries (s7_history (s7_thrown o0 (q7_thrown r14.2)) (q7_history r17)) (q7_entries r17)) (q7_closed r6)) (q7_faces r6)) (q7_rankOf r6)) (q7_placeOf r6)) (q7_faceMany r6)) (q7_isLaid r17)) r10).bind fun r19 =>
  (lp (fX7_figure_L74 o0 p1 r6 r14 r17) lpN (0, (q7_made r19)))))
  else (some (0, (s7_isLaid (s7_faceMany (s7_placeOf (s7_rankOf (s7_faces (s7_closed (s7_thrown o0 (q7_thrown r14.2)) (q7_closed r6)) (q7_faces r6)) (q7_rankOf r6)) (q7_placeOf r6)) (q7_faceMany r6)) (q7_isLaid r6)))))))))))
  else (some (0, (s7_thrown o0 (q7_thrown r3.2))))))
theorem myX7_figure : MYv yX7_figure cX7_figure 8 (some .int) 1 := ⟨mw_6_182, mw_6_183, mw_6_184, mw_1_9, ⟨by decide +kernel, by decide +kernel⟩, by decide +kernel⟩
set_option maxRecDepth 100000 in
set_option maxHeartbeats 4000000 in
theorem kX7_figure (l : Launch) (Z : GZ) (a0 a0_buffer a0_now a0_made a0_history a0_saved a0_closed a0_faces a0_rankOf a0_placeOf a0_counted a0_steps a0_onto a0_goes a0_firstImage : Nat) (o0 : OX7) (p1 : Int32) (res : Int32 × OX7) (h : fX7_figure o0 p1 = some res) : MI l Z yX7_figure cX7_figure 8 .int 4 90 [.ref a0, .int p1] [(a0, .inr (7, [.int (q7_thrown o0), .ref a0_buffer, .int (q7_length o0), .int (q7_at o0), .int (q7_from o0), .int (q7_kind o0), .int (q7_number o0), .int (q7_wrong o0), .ref a0_now, .ref a0_made, .ref a0_history, .ref a0_saved, .int (q7_entries o0), .int (q7_isSaved o0), .ref a0_closed, .ref a0_faces, .ref a0_rankOf, .ref a0_placeOf, .int (q7_faceMany o0), .int (q7_isLaid o0), .ref a0_counted, .ref a0_steps, .ref a0_onto, .ref a0_goes, .int (q7_found o0), .int (q7_images o0), .ref a0_firstImage, .int (q7_gathered o0)])), (a0_now, .inl (zI Z, 12, .inl (q7_now o0))), (a0_made, .inl (zI Z, 12, .inl (q7_made o0))), (a0_history, .inl (zI Z, 96, .inl (q7_history o0))), (a0_closed, .inl (zI Z, 256, .inl (q7_closed o0))), (a0_faces, .inl (zI Z, 256, .inl (q7_faces o0))), (a0_rankOf, .inl (zI Z, 256, .inl (q7_rankOf o0))), (a0_placeOf, .inl (zI Z, 256, .inl (q7_placeOf o0)))] res.1 [(a0, .inr (7, [.int (q7_thrown res.2), .ref a0_buffer, .int (q7_length o0), .int (q7_at o0), .int (q7_from o0), .int (q7_kind o0), .int (q7_number o0), .int (q7_wrong o0), .ref a0_now, .ref a0_made, .ref a0_history, .ref a0_saved, .int (q7_entries res.2), .int (q7_isSaved o0), .ref a0_closed, .ref a0_faces, .ref a0_rankOf, .ref a0_placeOf, .int (q7_faceMany res.2), .int (q7_isLaid res.2), .ref a0_counted, .ref a0_steps, .ref a0_onto, .ref a0_goes, .int (q7_found o0), .int (q7_images o0), .ref a0_firstImage, .int (q7_gathered o0)])), (a0_now, .inl (zI Z, 12, .inl (q7_now res.2))), (a0_made, .inl (zI Z, 12, .inl (q7_made res.2))), (a0_history, .inl (zI Z, 96, .inl (q7_history res.2))), (a0_closed, .inl (zI Z, 256, .inl (q7_closed res.2))), (a0_faces, .inl (zI Z, 256, .inl (q7_faces res.2))), (a0_rankOf, .inl (zI Z, 256, .inl (q7_rankOf res.2))), (a0_placeOf, .inl (zI Z, 256, .inl (q7_placeOf res.2)))] := by
  refine MI_of (by decide +kernel) (Nat.le_of_ble_eq_true rfl) (fun {p e s m args below meth c} A R hR Q hQ C hr hlk => ?_)
  unfold fX7_figure at h
  refine g_lv [0, 1] [(0, .ref a0), (1, .int p1)] rfl ?_
  refine g_aload_n C dX7_figure_0 rfl 0 rfl ?_
  refine g_iconst C 0 dX7_figure_1 (by decide) ?_
  refine g_put C 7 52 gin7 tyX7 tyX7_ok nmX7 0 rfl rfl 0 (by decide) mw_5_85 rfl rfl (ty := .int) (by decide +kernel) rfl rfl (Nat.le_of_ble_eq_true rfl) [(a0, .inr (7, [.int 0, .ref a0_buffer, .int (q7_length o0), .int (q7_at o0), .int (q7_from o0), .int (q7_kind o0), .int (q7_number o0), .int (q7_wrong o0), .ref a0_now, .ref a0_made, .ref a0_history, .ref a0_saved, .int (q7_entries o0), .int (q7_isSaved o0), .ref a0_closed, .ref a0_faces, .ref a0_rankOf, .ref a0_placeOf, .int (q7_faceMany o0), .int (q7_isLaid o0), .ref a0_counted, .ref a0_steps, .ref a0_onto, .ref a0_goes, .int (q7_found o0), .int (q7_images o0), .ref a0_firstImage, .int (q7_gathered o0)])), (a0_now, .inl (zI Z, 12, .inl (q7_now o0))), (a0_made, .inl (zI Z, 12, .inl (q7_made o0))), (a0_history, .inl (zI Z, 96, .inl (q7_history o0))), (a0_closed, .inl (zI Z, 256, .inl (q7_closed o0))), (a0_faces, .inl (zI Z, 256, .inl (q7_faces o0))), (a0_rankOf, .inl (zI Z, 256, .inl (q7_rankOf o0))), (a0_placeOf, .inl (zI Z, 256, .inl (q7_placeOf o0)))] rfl dX7_figure_2 ?_
  refine g_aload_n C dX7_figure_5 rfl 0 rfl ?_
  refine g_aload_n C dX7_figure_6 rfl 0 rfl ?_
  refine g_iload_n C dX7_figure_7 rfl 1 rfl ?_
  obtain ⟨r1, hr2, h⟩ := bd_of h
  refine g_callVi C (kX7_isPoint l Z a0 a0_buffer a0_now a0_made a0_history a0_saved a0_closed a0_faces a0_rankOf a0_placeOf a0_counted a0_steps a0_onto a0_goes a0_firstImage (s7_thrown o0 0) p1 r1 hr2) 0 rfl (ci := 7) rfl rfl myX7_isPoint 220 mw_6_76 rfl [0, 1] [2, 3, 4, 5, 6, 7] [6, 7, 0, 1, 2, 3, 4, 5] (wr := [(a0_made, .inl (zI Z, 12, .inl (q7_made o0))), (a0_history, .inl (zI Z, 96, .inl (q7_history o0))), (a0_closed, .inl (zI Z, 256, .inl (q7_closed o0))), (a0_faces, .inl (zI Z, 256, .inl (q7_faces o0))), (a0_rankOf, .inl (zI Z, 256, .inl (q7_rankOf o0))), (a0_placeOf, .inl (zI Z, 256, .inl (q7_placeOf o0)))]) rfl rfl (by decide) (by decide) (by decide) [(a0, .inr (7, [.int 0, .ref a0_buffer, .int (q7_length o0), .int (q7_at o0), .int (q7_from o0), .int (q7_kind o0), .int (q7_number o0), .int (q7_wrong o0), .ref a0_now, .ref a0_made, .ref a0_history, .ref a0_saved, .int (q7_entries o0), .int (q7_isSaved o0), .ref a0_closed, .ref a0_faces, .ref a0_rankOf, .ref a0_placeOf, .int (q7_faceMany o0), .int (q7_isLaid o0), .ref a0_counted, .ref a0_steps, .ref a0_onto, .ref a0_goes, .int (q7_found o0), .int (q7_images o0), .ref a0_firstImage, .int (q7_gathered o0)])), (a0_now, .inl (zI Z, 12, .inl (q7_now o0))), (a0_made, .inl (zI Z, 12, .inl (q7_made o0))), (a0_history, .inl (zI Z, 96, .inl (q7_history o0))), (a0_closed, .inl (zI Z, 256, .inl (q7_closed o0))), (a0_faces, .inl (zI Z, 256, .inl (q7_faces o0))), (a0_rankOf, .inl (zI Z, 256, .inl (q7_rankOf o0))), (a0_placeOf, .inl (zI Z, 256, .inl (q7_placeOf o0)))] rfl (by decide) (Nat.le_of_ble_eq_true rfl) (by rw [hR]; exact Nat.le_of_ble_eq_true rfl) (by rw [hR]; exact Nat.le_of_ble_eq_true rfl) ⟨by rw [hR]; exact Nat.le_of_ble_eq_true rfl, by rw [hR]; exact Nat.le_of_ble_eq_true rfl⟩ rfl dX7_figure_8 ?_
  refine g_iconst C 1 dX7_figure_11 (by decide) ?_
  obtain ⟨r3, hr4, h⟩ := bd_of h
  refine g_callVi C (kX7_fails l Z a0 a0_buffer a0_now a0_made a0_history a0_saved a0_closed a0_faces a0_rankOf a0_placeOf a0_counted a0_steps a0_onto a0_goes a0_firstImage (s7_thrown o0 0) r1 1 r3 hr4) 0 rfl (ci := 7) rfl rfl myX7_fails 63 mw_5_181 rfl [0] [1, 2, 3, 4, 5, 6, 7] [7, 0, 1, 2, 3, 4, 5, 6] (wr := [(a0_now, .inl (zI Z, 12, .inl (q7_now o0))), (a0_made, .inl (zI Z, 12, .inl (q7_made o0))), (a0_history, .inl (zI Z, 96, .inl (q7_history o0))), (a0_closed, .inl (zI Z, 256, .inl (q7_closed o0))), (a0_faces, .inl (zI Z, 256, .inl (q7_faces o0))), (a0_rankOf, .inl (zI Z, 256, .inl (q7_rankOf o0))), (a0_placeOf, .inl (zI Z, 256, .inl (q7_placeOf o0)))]) rfl rfl (by decide) (by decide) (by decide) [(a0, .inr (7, [.int (q7_thrown r3.2), .ref a0_buffer, .int (q7_length o0), .int (q7_at o0), .int (q7_from o0), .int (q7_kind o0), .int (q7_number o0), .int (q7_wrong o0), .ref a0_now, .ref a0_made, .ref a0_history, .ref a0_saved, .int (q7_entries o0), .int (q7_isSaved o0), .ref a0_closed, .ref a0_faces, .ref a0_rankOf, .ref a0_placeOf, .int (q7_faceMany o0), .int (q7_isLaid o0), .ref a0_counted, .ref a0_steps, .ref a0_onto, .ref a0_goes, .int (q7_found o0), .int (q7_images o0), .ref a0_firstImage, .int (q7_gathered o0)])), (a0_now, .inl (zI Z, 12, .inl (q7_now o0))), (a0_made, .inl (zI Z, 12, .inl (q7_made o0))), (a0_history, .inl (zI Z, 96, .inl (q7_history o0))), (a0_closed, .inl (zI Z, 256, .inl (q7_closed o0))), (a0_faces, .inl (zI Z, 256, .inl (q7_faces o0))), (a0_rankOf, .inl (zI Z, 256, .inl (q7_rankOf o0))), (a0_placeOf, .inl (zI Z, 256, .inl (q7_placeOf o0)))] rfl (by decide) (Nat.le_of_ble_eq_true rfl) (by rw [hR]; exact Nat.le_of_ble_eq_true rfl) (by rw [hR]; exact Nat.le_of_ble_eq_true rfl) ⟨by rw [hR]; exact Nat.le_of_ble_eq_true rfl, by rw [hR]; exact Nat.le_of_ble_eq_true rfl⟩ rfl dX7_figure_12 ?_
  refine g_if_eq C 20 dX7_figure_15 (by decide) (fun c5 => ?_) (fun c5 => ?_)
  · replace h := it_t c5 h
    refine g_aload_n C dX7_figure_20 rfl 0 rfl ?_
    obtain ⟨r6, hr7, h⟩ := bd_of h
    refine g_callVv C (kX7_lay l Z a0 a0_buffer a0_now a0_made a0_history a0_saved a0_closed a0_faces a0_rankOf a0_placeOf a0_counted a0_steps a0_onto a0_goes a0_firstImage (s7_thrown o0 (q7_thrown r3.2)) r6 hr7) 0 rfl (ci := 7) rfl rfl myX7_lay 217 mw_6_120 rfl [0, 1, 4, 5, 6, 7] [2, 3] [2, 3, 0, 1, 4, 5, 6, 7] (wr := [(a0_made, .inl (zI Z, 12, .inl (q7_made o0))), (a0_history, .inl (zI Z, 96, .inl (q7_history o0)))]) rfl rfl (by decide) (by decide) (by decide) [(a0, .inr (7, [.int (q7_thrown r3.2), .ref a0_buffer, .int (q7_length o0), .int (q7_at o0), .int (q7_from o0), .int (q7_kind o0), .int (q7_number o0), .int (q7_wrong o0), .ref a0_now, .ref a0_made, .ref a0_history, .ref a0_saved, .int (q7_entries o0), .int (q7_isSaved o0), .ref a0_closed, .ref a0_faces, .ref a0_rankOf, .ref a0_placeOf, .int (q7_faceMany r6), .int (q7_isLaid r6), .ref a0_counted, .ref a0_steps, .ref a0_onto, .ref a0_goes, .int (q7_found o0), .int (q7_images o0), .ref a0_firstImage, .int (q7_gathered o0)])), (a0_now, .inl (zI Z, 12, .inl (q7_now o0))), (a0_made, .inl (zI Z, 12, .inl (q7_made o0))), (a0_history, .inl (zI Z, 96, .inl (q7_history o0))), (a0_closed, .inl (zI Z, 256, .inl (q7_closed r6))), (a0_faces, .inl (zI Z, 256, .inl (q7_faces r6))), (a0_rankOf, .inl (zI Z, 256, .inl (q7_rankOf r6))), (a0_placeOf, .inl (zI Z, 256, .inl (q7_placeOf r6)))] rfl (by decide) (Nat.le_of_ble_eq_true rfl) (by rw [hR]; exact Nat.le_of_ble_eq_true rfl) (by rw [hR]; exact Nat.le_of_ble_eq_true rfl) ⟨by rw [hR]; exact Nat.le_of_ble_eq_true rfl, by rw [hR]; exact Nat.le_of_ble_eq_true rfl⟩ rfl dX7_figure_21 ?_
    refine g_aload_n C dX7_figure_24 rfl 0 rfl ?_
    refine g_get C 7 34 gin7 0 rfl rfl 17 (by decide) mw_5_102 rfl rfl dX7_figure_25 ?_
    refine g_aload_n C dX7_figure_28 rfl 0 rfl ?_
    refine g_get C 7 25 gin7 0 rfl rfl 14 (by decide) mw_5_99 rfl rfl dX7_figure_29 ?_
    refine g_iconst C 1 dX7_figure_32 (by decide) ?_
    refine g_iload_n C dX7_figure_33 rfl 1 rfl ?_
    refine g_ishl C dX7_figure_34 ?_
    obtain ⟨hi8, h⟩ := ck_of h
    refine g_iald C 4 rfl hi8 dX7_figure_35 ?_
    obtain ⟨hi9, h⟩ := ck_of h
    refine g_iald C 7 rfl hi9 dX7_figure_36 ?_
    refine g_istore_n C dX7_figure_37 rfl (by decide) [(2, .int ((q7_placeOf r6) (ix ((q7_closed r6) (ix (jshl 1 p1)))))), (0, .ref a0), (1, .int p1)] rfl ?_
    refine g_aload_n C dX7_figure_38 rfl 1 rfl ?_
    refine g_iload_n C dX7_figure_39 rfl 0 rfl ?_
    refine g_iconst C 1 dX7_figure_40 (by decide) ?_
    obtain ⟨r10, hr11, h⟩ := bd_of h
    refine g_callVi C (kX7_coverCount l Z a0 a0_buffer a0_now a0_made a0_history a0_saved a0_closed a0_faces a0_rankOf a0_placeOf a0_counted a0_steps a0_onto a0_goes a0_firstImage (s7_isLaid (s7_faceMany (s7_placeOf (s7_rankOf (s7_faces (s7_closed (s7_thrown o0 (q7_thrown r3.2)) (q7_closed r6)) (q7_faces r6)) (q7_rankOf r6)) (q7_placeOf r6)) (q7_faceMany r6)) (q7_isLaid r6)) ((q7_placeOf r6) (ix ((q7_closed r6) (ix (jshl 1 p1))))) 1 r10 hr11) 0 rfl (ci := 7) rfl rfl myX7_coverCount 244 mw_6_148 rfl [0, 4, 5] [1, 2, 3, 6, 7] [5, 0, 1, 2, 6, 7, 3, 4] (wr := [(a0_now, .inl (zI Z, 12, .inl (q7_now o0))), (a0_made, .inl (zI Z, 12, .inl (q7_made o0))), (a0_history, .inl (zI Z, 96, .inl (q7_history o0))), (a0_rankOf, .inl (zI Z, 256, .inl (q7_rankOf r6))), (a0_placeOf, .inl (zI Z, 256, .inl (q7_placeOf r6)))]) rfl rfl (by decide) (by decide) (by decide) [(a0, .inr (7, [.int (q7_thrown r3.2), .ref a0_buffer, .int (q7_length o0), .int (q7_at o0), .int (q7_from o0), .int (q7_kind o0), .int (q7_number o0), .int (q7_wrong o0), .ref a0_now, .ref a0_made, .ref a0_history, .ref a0_saved, .int (q7_entries o0), .int (q7_isSaved o0), .ref a0_closed, .ref a0_faces, .ref a0_rankOf, .ref a0_placeOf, .int (q7_faceMany r6), .int (q7_isLaid r6), .ref a0_counted, .ref a0_steps, .ref a0_onto, .ref a0_goes, .int (q7_found o0), .int (q7_images o0), .ref a0_firstImage, .int (q7_gathered o0)])), (a0_now, .inl (zI Z, 12, .inl (q7_now o0))), (a0_made, .inl (zI Z, 12, .inl (q7_made o0))), (a0_history, .inl (zI Z, 96, .inl (q7_history o0))), (a0_closed, .inl (zI Z, 256, .inl (q7_closed r6))), (a0_faces, .inl (zI Z, 256, .inl (q7_faces r6))), (a0_rankOf, .inl (zI Z, 256, .inl (q7_rankOf r6))), (a0_placeOf, .inl (zI Z, 256, .inl (q7_placeOf r6)))] rfl (by decide) (Nat.le_of_ble_eq_true rfl) (by rw [hR]; exact Nat.le_of_ble_eq_true rfl) (by rw [hR]; exact Nat.le_of_ble_eq_true rfl) ⟨by rw [hR]; exact Nat.le_of_ble_eq_true rfl, by rw [hR]; exact Nat.le_of_ble_eq_true rfl⟩ rfl dX7_figure_41 ?_
    refine g_istore_n C dX7_figure_44 rfl (by decide) [(3, .int r10), (2, .int ((q7_placeOf r6) (ix ((q7_closed r6) (ix (jshl 1 p1)))))), (0, .ref a0), (1, .int p1)] rfl ?_
    refine g_aload_n C dX7_figure_45 rfl 2 rfl ?_
    refine g_iload_n C dX7_figure_46 rfl 0 rfl ?_
    refine g_iconst C 1 dX7_figure_47 (by decide) ?_
    refine g_bipush C 8 dX7_figure_48 (by decide) ?_
    obtain ⟨r12, hr13, h⟩ := bd_of h
    refine g_callSi C (kX7_in l Z r10 1 8 r12 hr13) myX7_in 67 mw_5_189 rfl [] [0, 1, 2, 3, 4, 5, 6, 7] [0, 1, 2, 3, 4, 5, 6, 7] (wr := [(a0, .inr (7, [.int (q7_thrown r3.2), .ref a0_buffer, .int (q7_length o0), .int (q7_at o0), .int (q7_from o0), .int (q7_kind o0), .int (q7_number o0), .int (q7_wrong o0), .ref a0_now, .ref a0_made, .ref a0_history, .ref a0_saved, .int (q7_entries o0), .int (q7_isSaved o0), .ref a0_closed, .ref a0_faces, .ref a0_rankOf, .ref a0_placeOf, .int (q7_faceMany r6), .int (q7_isLaid r6), .ref a0_counted, .ref a0_steps, .ref a0_onto, .ref a0_goes, .int (q7_found o0), .int (q7_images o0), .ref a0_firstImage, .int (q7_gathered o0)])), (a0_now, .inl (zI Z, 12, .inl (q7_now o0))), (a0_made, .inl (zI Z, 12, .inl (q7_made o0))), (a0_history, .inl (zI Z, 96, .inl (q7_history o0))), (a0_closed, .inl (zI Z, 256, .inl (q7_closed r6))), (a0_faces, .inl (zI Z, 256, .inl (q7_faces r6))), (a0_rankOf, .inl (zI Z, 256, .inl (q7_rankOf r6))), (a0_placeOf, .inl (zI Z, 256, .inl (q7_placeOf r6)))]) rfl rfl (by decide) (by decide) (by decide) [(a0, .inr (7, [.int (q7_thrown r3.2), .ref a0_buffer, .int (q7_length o0), .int (q7_at o0), .int (q7_from o0), .int (q7_kind o0), .int (q7_number o0), .int (q7_wrong o0), .ref a0_now, .ref a0_made, .ref a0_history, .ref a0_saved, .int (q7_entries o0), .int (q7_isSaved o0), .ref a0_closed, .ref a0_faces, .ref a0_rankOf, .ref a0_placeOf, .int (q7_faceMany r6), .int (q7_isLaid r6), .ref a0_counted, .ref a0_steps, .ref a0_onto, .ref a0_goes, .int (q7_found o0), .int (q7_images o0), .ref a0_firstImage, .int (q7_gathered o0)])), (a0_now, .inl (zI Z, 12, .inl (q7_now o0))), (a0_made, .inl (zI Z, 12, .inl (q7_made o0))), (a0_history, .inl (zI Z, 96, .inl (q7_history o0))), (a0_closed, .inl (zI Z, 256, .inl (q7_closed r6))), (a0_faces, .inl (zI Z, 256, .inl (q7_faces r6))), (a0_rankOf, .inl (zI Z, 256, .inl (q7_rankOf r6))), (a0_placeOf, .inl (zI Z, 256, .inl (q7_placeOf r6)))] rfl (by decide) (Nat.le_of_ble_eq_true rfl) (by rw [hR]; exact Nat.le_of_ble_eq_true rfl) (by rw [hR]; exact Nat.le_of_ble_eq_true rfl) ⟨by rw [hR]; exact Nat.le_of_ble_eq_true rfl, by rw [hR]; exact Nat.le_of_ble_eq_true rfl⟩ rfl dX7_figure_50 ?_
    refine g_iconst C 2 dX7_figure_53 (by decide) ?_
    obtain ⟨r14, hr15, h⟩ := bd_of h
    refine g_callVi C (kX7_fails l Z a0 a0_buffer a0_now a0_made a0_history a0_saved a0_closed a0_faces a0_rankOf a0_placeOf a0_counted a0_steps a0_onto a0_goes a0_firstImage (s7_isLaid (s7_faceMany (s7_placeOf (s7_rankOf (s7_faces (s7_closed (s7_thrown o0 (q7_thrown r3.2)) (q7_closed r6)) (q7_faces r6)) (q7_rankOf r6)) (q7_placeOf r6)) (q7_faceMany r6)) (q7_isLaid r6)) r12 2 r14 hr15) 0 rfl (ci := 7) rfl rfl myX7_fails 63 mw_5_181 rfl [0] [1, 2, 3, 4, 5, 6, 7] [7, 0, 1, 2, 3, 4, 5, 6] (wr := [(a0_now, .inl (zI Z, 12, .inl (q7_now o0))), (a0_made, .inl (zI Z, 12, .inl (q7_made o0))), (a0_history, .inl (zI Z, 96, .inl (q7_history o0))), (a0_closed, .inl (zI Z, 256, .inl (q7_closed r6))), (a0_faces, .inl (zI Z, 256, .inl (q7_faces r6))), (a0_rankOf, .inl (zI Z, 256, .inl (q7_rankOf r6))), (a0_placeOf, .inl (zI Z, 256, .inl (q7_placeOf r6)))]) rfl rfl (by decide) (by decide) (by decide) [(a0, .inr (7, [.int (q7_thrown r14.2), .ref a0_buffer, .int (q7_length o0), .int (q7_at o0), .int (q7_from o0), .int (q7_kind o0), .int (q7_number o0), .int (q7_wrong o0), .ref a0_now, .ref a0_made, .ref a0_history, .ref a0_saved, .int (q7_entries o0), .int (q7_isSaved o0), .ref a0_closed, .ref a0_faces, .ref a0_rankOf, .ref a0_placeOf, .int (q7_faceMany r6), .int (q7_isLaid r6), .ref a0_counted, .ref a0_steps, .ref a0_onto, .ref a0_goes, .int (q7_found o0), .int (q7_images o0), .ref a0_firstImage, .int (q7_gathered o0)])), (a0_now, .inl (zI Z, 12, .inl (q7_now o0))), (a0_made, .inl (zI Z, 12, .inl (q7_made o0))), (a0_history, .inl (zI Z, 96, .inl (q7_history o0))), (a0_closed, .inl (zI Z, 256, .inl (q7_closed r6))), (a0_faces, .inl (zI Z, 256, .inl (q7_faces r6))), (a0_rankOf, .inl (zI Z, 256, .inl (q7_rankOf r6))), (a0_placeOf, .inl (zI Z, 256, .inl (q7_placeOf r6)))] rfl (by decide) (Nat.le_of_ble_eq_true rfl) (by rw [hR]; exact Nat.le_of_ble_eq_true rfl) (by rw [hR]; exact Nat.le_of_ble_eq_true rfl) ⟨by rw [hR]; exact Nat.le_of_ble_eq_true rfl, by rw [hR]; exact Nat.le_of_ble_eq_true rfl⟩ rfl dX7_figure_54 ?_
    refine g_if_eq C 62 dX7_figure_57 (by decide) (fun c16 => ?_) (fun c16 => ?_)
    · replace h := it_t c16 h
      refine g_aload_n C dX7_figure_62 rfl 2 rfl ?_
      obtain ⟨r17, hr18, h⟩ := bd_of h
      refine g_callVv C (kX7_record l Z a0 a0_buffer a0_now a0_made a0_history a0_saved a0_closed a0_faces a0_rankOf a0_placeOf a0_counted a0_steps a0_onto a0_goes a0_firstImage (s7_isLaid (s7_faceMany (s7_placeOf (s7_rankOf (s7_faces (s7_closed (s7_thrown o0 (q7_thrown r14.2)) (q7_closed r6)) (q7_faces r6)) (q7_rankOf r6)) (q7_placeOf r6)) (q7_faceMany r6)) (q7_isLaid r6)) r17 hr18) 0 rfl (ci := 7) rfl rfl myX7_record 226 mw_6_84 rfl [0, 1, 3] [2, 4, 5, 6, 7] [5, 6, 0, 7, 1, 2, 3, 4] (wr := [(a0_made, .inl (zI Z, 12, .inl (q7_made o0))), (a0_closed, .inl (zI Z, 256, .inl (q7_closed r6))), (a0_faces, .inl (zI Z, 256, .inl (q7_faces r6))), (a0_rankOf, .inl (zI Z, 256, .inl (q7_rankOf r6))), (a0_placeOf, .inl (zI Z, 256, .inl (q7_placeOf r6)))]) rfl rfl (by decide) (by decide) (by decide) [(a0, .inr (7, [.int (q7_thrown r14.2), .ref a0_buffer, .int (q7_length o0), .int (q7_at o0), .int (q7_from o0), .int (q7_kind o0), .int (q7_number o0), .int (q7_wrong o0), .ref a0_now, .ref a0_made, .ref a0_history, .ref a0_saved, .int (q7_entries r17), .int (q7_isSaved o0), .ref a0_closed, .ref a0_faces, .ref a0_rankOf, .ref a0_placeOf, .int (q7_faceMany r6), .int (q7_isLaid r17), .ref a0_counted, .ref a0_steps, .ref a0_onto, .ref a0_goes, .int (q7_found o0), .int (q7_images o0), .ref a0_firstImage, .int (q7_gathered o0)])), (a0_now, .inl (zI Z, 12, .inl (q7_now o0))), (a0_made, .inl (zI Z, 12, .inl (q7_made o0))), (a0_history, .inl (zI Z, 96, .inl (q7_history r17))), (a0_closed, .inl (zI Z, 256, .inl (q7_closed r6))), (a0_faces, .inl (zI Z, 256, .inl (q7_faces r6))), (a0_rankOf, .inl (zI Z, 256, .inl (q7_rankOf r6))), (a0_placeOf, .inl (zI Z, 256, .inl (q7_placeOf r6)))] rfl (by decide) (Nat.le_of_ble_eq_true rfl) (by rw [hR]; exact Nat.le_of_ble_eq_true rfl) (by rw [hR]; exact Nat.le_of_ble_eq_true rfl) ⟨by rw [hR]; exact Nat.le_of_ble_eq_true rfl, by rw [hR]; exact Nat.le_of_ble_eq_true rfl⟩ rfl dX7_figure_63 ?_
      refine g_aload_n C dX7_figure_66 rfl 2 rfl ?_
      refine g_iload_n C dX7_figure_67 rfl 0 rfl ?_
      obtain ⟨r19, hr20, h⟩ := bd_of h
      refine g_callVv C (kX7_begin l Z a0 a0_buffer a0_now a0_made a0_history a0_saved a0_closed a0_faces a0_rankOf a0_placeOf a0_counted a0_steps a0_onto a0_goes a0_firstImage (s7_isLaid (s7_faceMany (s7_placeOf (s7_rankOf (s7_faces (s7_closed (s7_entries (s7_history (s7_thrown o0 (q7_thrown r14.2)) (q7_history r17)) (q7_entries r17)) (q7_closed r6)) (q7_faces r6)) (q7_rankOf r6)) (q7_placeOf r6)) (q7_faceMany r6)) (q7_isLaid r17)) r10 r19 hr20) 0 rfl (ci := 7) rfl rfl myX7_begin 123 mw_6_5 rfl [0, 2] [1, 3, 4, 5, 6, 7] [6, 0, 7, 1, 2, 3, 4, 5] (wr := [(a0_now, .inl (zI Z, 12, .inl (q7_now o0))), (a0_history, .inl (zI Z, 96, .inl (q7_history r17))), (a0_closed, .inl (zI Z, 256, .inl (q7_closed r6))), (a0_faces, .inl (zI Z, 256, .inl (q7_faces r6))), (a0_rankOf, .inl (zI Z, 256, .inl (q7_rankOf r6))), (a0_placeOf, .inl (zI Z, 256, .inl (q7_placeOf r6)))]) rfl rfl (by decide) (by decide) (by decide) [(a0, .inr (7, [.int (q7_thrown r14.2), .ref a0_buffer, .int (q7_length o0), .int (q7_at o0), .int (q7_from o0), .int (q7_kind o0), .int (q7_number o0), .int (q7_wrong o0), .ref a0_now, .ref a0_made, .ref a0_history, .ref a0_saved, .int (q7_entries r17), .int (q7_isSaved o0), .ref a0_closed, .ref a0_faces, .ref a0_rankOf, .ref a0_placeOf, .int (q7_faceMany r6), .int (q7_isLaid r17), .ref a0_counted, .ref a0_steps, .ref a0_onto, .ref a0_goes, .int (q7_found o0), .int (q7_images o0), .ref a0_firstImage, .int (q7_gathered o0)])), (a0_now, .inl (zI Z, 12, .inl (q7_now o0))), (a0_made, .inl (zI Z, 12, .inl (q7_made r19))), (a0_history, .inl (zI Z, 96, .inl (q7_history r17))), (a0_closed, .inl (zI Z, 256, .inl (q7_closed r6))), (a0_faces, .inl (zI Z, 256, .inl (q7_faces r6))), (a0_rankOf, .inl (zI Z, 256, .inl (q7_rankOf r6))), (a0_placeOf, .inl (zI Z, 256, .inl (q7_placeOf r6)))] rfl (by decide) (Nat.le_of_ble_eq_true rfl) (by rw [hR]; exact Nat.le_of_ble_eq_true rfl) (by rw [hR]; exact Nat.le_of_ble_eq_true rfl) ⟨by rw [hR]; exact Nat.le_of_ble_eq_true rfl, by rw [hR]; exact Nat.le_of_ble_eq_true rfl⟩ rfl dX7_figure_68 ?_
      refine g_iconst C 0 dX7_figure_71 (by decide) ?_
      refine g_istore C dX7_figure_72 (by decide) [(4, .int 0), (3, .int r10), (2, .int ((q7_placeOf r6) (ix ((q7_closed r6) (ix (jshl 1 p1)))))), (0, .ref a0), (1, .int p1)] rfl ?_
      refine g_lv [3, 4, 2, 0] [(0, .ref a0), (1, .int p1), (2, .int ((q7_placeOf r6) (ix ((q7_closed r6) (ix (jshl 1 p1)))))), (4, .int 0)] rfl ?_
      refine g_loop (lvf := fun v21 => [(0, .ref a0), (1, .int p1), (2, .int ((q7_placeOf r6) (ix ((q7_closed r6) (ix (jshl 1 p1)))))), (4, .int v21.1)]) (wsf := fun v21 => [(a0, .inr (7, [.int (q7_thrown r14.2), .ref a0_buffer, .int (q7_length o0), .int (q7_at o0), .int (q7_from o0), .int (q7_kind o0), .int (q7_number o0), .int (q7_wrong o0), .ref a0_now, .ref a0_made, .ref a0_history, .ref a0_saved, .int (q7_entries r17), .int (q7_isSaved o0), .ref a0_closed, .ref a0_faces, .ref a0_rankOf, .ref a0_placeOf, .int (q7_faceMany r6), .int (q7_isLaid r17), .ref a0_counted, .ref a0_steps, .ref a0_onto, .ref a0_goes, .int (q7_found o0), .int (q7_images o0), .ref a0_firstImage, .int (q7_gathered o0)])), (a0_now, .inl (zI Z, 12, .inl (q7_now o0))), (a0_made, .inl (zI Z, 12, .inl v21.2)), (a0_history, .inl (zI Z, 96, .inl (q7_history r17))), (a0_closed, .inl (zI Z, 256, .inl (q7_closed r6))), (a0_faces, .inl (zI Z, 256, .inl (q7_faces r6))), (a0_rankOf, .inl (zI Z, 256, .inl (q7_rankOf r6))), (a0_placeOf, .inl (zI Z, 256, .inl (q7_placeOf r6)))]) h (fun v21 y1 h hk1 hx1 => ?_)
      refine g_eq (lv1 := [(0, .ref a0), (1, .int p1), (2, .int ((q7_placeOf r6) (ix ((q7_closed r6) (ix (jshl 1 p1)))))), (4, .int v21.1)]) (st1 := []) (ws1 := [(a0, .inr (7, [.int (q7_thrown r14.2), .ref a0_buffer, .int (q7_length o0), .int (q7_at o0), .int (q7_from o0), .int (q7_kind o0), .int (q7_number o0), .int (q7_wrong o0), .ref a0_now, .ref a0_made, .ref a0_history, .ref a0_saved, .int (q7_entries r17), .int (q7_isSaved o0), .ref a0_closed, .ref a0_faces, .ref a0_rankOf, .ref a0_placeOf, .int (q7_faceMany r6), .int (q7_isLaid r17), .ref a0_counted, .ref a0_steps, .ref a0_onto, .ref a0_goes, .int (q7_found o0), .int (q7_images o0), .ref a0_firstImage, .int (q7_gathered o0)])), (a0_now, .inl (zI Z, 12, .inl (q7_now o0))), (a0_made, .inl (zI Z, 12, .inl v21.2)), (a0_history, .inl (zI Z, 96, .inl (q7_history r17))), (a0_closed, .inl (zI Z, 256, .inl (q7_closed r6))), (a0_faces, .inl (zI Z, 256, .inl (q7_faces r6))), (a0_rankOf, .inl (zI Z, 256, .inl (q7_rankOf r6))), (a0_placeOf, .inl (zI Z, 256, .inl (q7_placeOf r6)))]) rfl rfl rfl rfl ?_
      unfold fX7_figure_L74 at h
      refine g_iload C dX7_figure_74 3 rfl ?_
      refine g_aload_n C dX7_figure_76 rfl 0 rfl ?_
      refine g_get C 7 13 gin7 0 rfl rfl 8 (by decide) mw_5_93 rfl rfl dX7_figure_77 ?_
      refine g_iconst C 1 dX7_figure_80 (by decide) ?_
      refine g_iald C 1 rfl (by decide) dX7_figure_81 ?_
      refine g_icmp_ge C 185 dX7_figure_82 (by decide) (fun c22 => ?_) (fun c22 => ?_)
      · replace h := it_t c22 h
        obtain ⟨r23, h, hy⟩ := ex_of h
        rw [hx1 r23 hy] at h
        refine g_aload_n C dX7_figure_185 rfl 0 rfl ?_
        obtain ⟨r24, hr25, h⟩ := bd_of h
        refine g_callVv C (kX7_takeMade l Z a0 a0_buffer a0_now a0_made a0_history a0_saved a0_closed a0_faces a0_rankOf a0_placeOf a0_counted a0_steps a0_onto a0_goes a0_firstImage (s7_isLaid (s7_faceMany (s7_placeOf (s7_rankOf (s7_faces (s7_closed (s7_entries (s7_history (s7_made (s7_thrown o0 (q7_thrown r14.2)) v21.2) (q7_history r17)) (q7_entries r17)) (q7_closed r6)) (q7_faces r6)) (q7_rankOf r6)) (q7_placeOf r6)) (q7_faceMany r6)) (q7_isLaid r17)) r24 hr25) 0 rfl (ci := 7) rfl rfl myX7_takeMade 187 mw_6_52 rfl [0, 1, 2] [3, 4, 5, 6, 7] [5, 6, 7, 0, 1, 2, 3, 4] (wr := [(a0_history, .inl (zI Z, 96, .inl (q7_history r17))), (a0_closed, .inl (zI Z, 256, .inl (q7_closed r6))), (a0_faces, .inl (zI Z, 256, .inl (q7_faces r6))), (a0_rankOf, .inl (zI Z, 256, .inl (q7_rankOf r6))), (a0_placeOf, .inl (zI Z, 256, .inl (q7_placeOf r6)))]) rfl rfl (by decide) (by decide) (by decide) [(a0, .inr (7, [.int (q7_thrown r14.2), .ref a0_buffer, .int (q7_length o0), .int (q7_at o0), .int (q7_from o0), .int (q7_kind o0), .int (q7_number o0), .int (q7_wrong o0), .ref a0_now, .ref a0_made, .ref a0_history, .ref a0_saved, .int (q7_entries r17), .int (q7_isSaved o0), .ref a0_closed, .ref a0_faces, .ref a0_rankOf, .ref a0_placeOf, .int (q7_faceMany r6), .int (q7_isLaid r24), .ref a0_counted, .ref a0_steps, .ref a0_onto, .ref a0_goes, .int (q7_found o0), .int (q7_images o0), .ref a0_firstImage, .int (q7_gathered o0)])), (a0_now, .inl (zI Z, 12, .inl (q7_now r24))), (a0_made, .inl (zI Z, 12, .inl v21.2)), (a0_history, .inl (zI Z, 96, .inl (q7_history r17))), (a0_closed, .inl (zI Z, 256, .inl (q7_closed r6))), (a0_faces, .inl (zI Z, 256, .inl (q7_faces r6))), (a0_rankOf, .inl (zI Z, 256, .inl (q7_rankOf r6))), (a0_placeOf, .inl (zI Z, 256, .inl (q7_placeOf r6)))] rfl (by decide) (Nat.le_of_ble_eq_true rfl) (by rw [hR]; exact Nat.le_of_ble_eq_true rfl) (by rw [hR]; exact Nat.le_of_ble_eq_true rfl) ⟨by rw [hR]; exact Nat.le_of_ble_eq_true rfl, by rw [hR]; exact Nat.le_of_ble_eq_true rfl⟩ rfl dX7_figure_186 ?_
        refine g_aload_n C dX7_figure_189 rfl 0 rfl ?_
        refine g_get C 7 13 gin7 0 rfl rfl 8 (by decide) mw_5_93 rfl rfl dX7_figure_190 ?_
        refine g_iconst C 0 dX7_figure_193 (by decide) ?_
        refine g_iald C 1 rfl (by decide) dX7_figure_194 ?_
        obtain rfl := Option.some.inj h
        subst hQ
        exact g_iret C rfl hr hlk dX7_figure_195 [0, 1, 2, 3, 4, 5, 6, 7] rfl (by decide)
      · replace h := it_f c22 h
        refine g_aload_n C dX7_figure_85 rfl 0 rfl ?_
        refine g_get C 7 13 gin7 0 rfl rfl 8 (by decide) mw_5_93 rfl rfl dX7_figure_86 ?_
        refine g_iconst C 2 dX7_figure_89 (by decide) ?_
        refine g_iload C dX7_figure_90 3 rfl ?_
        refine g_iadd C dX7_figure_92 ?_
        obtain ⟨hi26, h⟩ := ck_of h
        refine g_iald C 1 rfl hi26 dX7_figure_93 ?_
        refine g_iload_n C dX7_figure_94 rfl 1 rfl ?_
        obtain ⟨r27, hr28, h⟩ := bd_of h
        refine g_callSi C (kX7_has l Z ((q7_now o0) (ix (2 + v21.1))) p1 r27 hr28) myX7_has 165 mw_6_45 rfl [] [0, 1, 2, 3, 4, 5, 6, 7] [0, 1, 2, 3, 4, 5, 6, 7] (wr := [(a0, .inr (7, [.int (q7_thrown r14.2), .ref a0_buffer, .int (q7_length o0), .int (q7_at o0), .int (q7_from o0), .int (q7_kind o0), .int (q7_number o0), .int (q7_wrong o0), .ref a0_now, .ref a0_made, .ref a0_history, .ref a0_saved, .int (q7_entries r17), .int (q7_isSaved o0), .ref a0_closed, .ref a0_faces, .ref a0_rankOf, .ref a0_placeOf, .int (q7_faceMany r6), .int (q7_isLaid r17), .ref a0_counted, .ref a0_steps, .ref a0_onto, .ref a0_goes, .int (q7_found o0), .int (q7_images o0), .ref a0_firstImage, .int (q7_gathered o0)])), (a0_now, .inl (zI Z, 12, .inl (q7_now o0))), (a0_made, .inl (zI Z, 12, .inl v21.2)), (a0_history, .inl (zI Z, 96, .inl (q7_history r17))), (a0_closed, .inl (zI Z, 256, .inl (q7_closed r6))), (a0_faces, .inl (zI Z, 256, .inl (q7_faces r6))), (a0_rankOf, .inl (zI Z, 256, .inl (q7_rankOf r6))), (a0_placeOf, .inl (zI Z, 256, .inl (q7_placeOf r6)))]) rfl rfl (by decide) (by decide) (by decide) [(a0, .inr (7, [.int (q7_thrown r14.2), .ref a0_buffer, .int (q7_length o0), .int (q7_at o0), .int (q7_from o0), .int (q7_kind o0), .int (q7_number o0), .int (q7_wrong o0), .ref a0_now, .ref a0_made, .ref a0_history, .ref a0_saved, .int (q7_entries r17), .int (q7_isSaved o0), .ref a0_closed, .ref a0_faces, .ref a0_rankOf, .ref a0_placeOf, .int (q7_faceMany r6), .int (q7_isLaid r17), .ref a0_counted, .ref a0_steps, .ref a0_onto, .ref a0_goes, .int (q7_found o0), .int (q7_images o0), .ref a0_firstImage, .int (q7_gathered o0)])), (a0_now, .inl (zI Z, 12, .inl (q7_now o0))), (a0_made, .inl (zI Z, 12, .inl v21.2)), (a0_history, .inl (zI Z, 96, .inl (q7_history r17))), (a0_closed, .inl (zI Z, 256, .inl (q7_closed r6))), (a0_faces, .inl (zI Z, 256, .inl (q7_faces r6))), (a0_rankOf, .inl (zI Z, 256, .inl (q7_rankOf r6))), (a0_placeOf, .inl (zI Z, 256, .inl (q7_placeOf r6)))] rfl (by decide) (Nat.le_of_ble_eq_true rfl) (by rw [hR]; exact Nat.le_of_ble_eq_true rfl) (by rw [hR]; exact Nat.le_of_ble_eq_true rfl) ⟨by rw [hR]; exact Nat.le_of_ble_eq_true rfl, by rw [hR]; exact Nat.le_of_ble_eq_true rfl⟩ rfl dX7_figure_95 ?_
        refine g_if_eq C 179 dX7_figure_98 (by decide) (fun c29 => ?_) (fun c29 => ?_)
        · replace h := it_t c29 h
          refine g_iinc C (v21.1 + 1) dX7_figure_179 3 rfl rfl (by decide) [(4, .int (v21.1 + 1)), (0, .ref a0), (1, .int p1), (2, .int ((q7_placeOf r6) (ix ((q7_closed r6) (ix (jshl 1 p1))))))] rfl ?_
          refine g_goto C 74 dX7_figure_182 (by decide) ?_
          refine g_lv [1, 2, 3, 0] [(0, .ref a0), (1, .int p1), (2, .int ((q7_placeOf r6) (ix ((q7_closed r6) (ix (jshl 1 p1)))))), (4, .int (v21.1 + 1))] rfl ?_
          exact hk1 ((v21.1 + 1), v21.2) (Option.some.inj h).symm
        · replace h := it_f c29 h
          refine g_iconst C 0 dX7_figure_101 (by decide) ?_
          refine g_istore C dX7_figure_102 (by decide) [(5, .int 0), (0, .ref a0), (1, .int p1), (2, .int ((q7_placeOf r6) (ix ((q7_closed r6) (ix (jshl 1 p1)))))), (4, .int v21.1)] rfl ?_
          refine g_iconst C 0 dX7_figure_104 (by decide) ?_
          refine g_istore C dX7_figure_105 (by decide) [(6, .int 0), (5, .int 0), (0, .ref a0), (1, .int p1), (2, .int ((q7_placeOf r6) (ix ((q7_closed r6) (ix (jshl 1 p1)))))), (4, .int v21.1)] rfl ?_
          refine g_iconst C 0 dX7_figure_107 (by decide) ?_
          refine g_istore C dX7_figure_108 (by decide) [(7, .int 0), (6, .int 0), (5, .int 0), (0, .ref a0), (1, .int p1), (2, .int ((q7_placeOf r6) (ix ((q7_closed r6) (ix (jshl 1 p1)))))), (4, .int v21.1)] rfl ?_
          refine g_lv [3, 4, 5, 6, 2, 1, 0] [(0, .ref a0), (1, .int p1), (2, .int ((q7_placeOf r6) (ix ((q7_closed r6) (ix (jshl 1 p1)))))), (4, .int v21.1), (5, .int 0), (6, .int 0), (7, .int 0)] rfl ?_
          refine g_loop (lvf := fun v30 => [(0, .ref a0), (1, .int p1), (2, .int ((q7_placeOf r6) (ix ((q7_closed r6) (ix (jshl 1 p1)))))), (4, .int v21.1), (5, .int v30.1), (6, .int v30.2.1), (7, .int v30.2.2)]) (wsf := fun v30 => [(a0, .inr (7, [.int (q7_thrown r14.2), .ref a0_buffer, .int (q7_length o0), .int (q7_at o0), .int (q7_from o0), .int (q7_kind o0), .int (q7_number o0), .int (q7_wrong o0), .ref a0_now, .ref a0_made, .ref a0_history, .ref a0_saved, .int (q7_entries r17), .int (q7_isSaved o0), .ref a0_closed, .ref a0_faces, .ref a0_rankOf, .ref a0_placeOf, .int (q7_faceMany r6), .int (q7_isLaid r17), .ref a0_counted, .ref a0_steps, .ref a0_onto, .ref a0_goes, .int (q7_found o0), .int (q7_images o0), .ref a0_firstImage, .int (q7_gathered o0)])), (a0_now, .inl (zI Z, 12, .inl (q7_now o0))), (a0_made, .inl (zI Z, 12, .inl v21.2)), (a0_history, .inl (zI Z, 96, .inl (q7_history r17))), (a0_closed, .inl (zI Z, 256, .inl (q7_closed r6))), (a0_faces, .inl (zI Z, 256, .inl (q7_faces r6))), (a0_rankOf, .inl (zI Z, 256, .inl (q7_rankOf r6))), (a0_placeOf, .inl (zI Z, 256, .inl (q7_placeOf r6)))]) h (fun v30 y2 h hk2 hx2 => ?_)
          refine g_eq (lv1 := [(0, .ref a0), (1, .int p1), (2, .int ((q7_placeOf r6) (ix ((q7_closed r6) (ix (jshl 1 p1)))))), (4, .int v21.1), (5, .int v30.1), (6, .int v30.2.1), (7, .int v30.2.2)]) (st1 := []) (ws1 := [(a0, .inr (7, [.int (q7_thrown r14.2), .ref a0_buffer, .int (q7_length o0), .int (q7_at o0), .int (q7_from o0), .int (q7_kind o0), .int (q7_number o0), .int (q7_wrong o0), .ref a0_now, .ref a0_made, .ref a0_history, .ref a0_saved, .int (q7_entries r17), .int (q7_isSaved o0), .ref a0_closed, .ref a0_faces, .ref a0_rankOf, .ref a0_placeOf, .int (q7_faceMany r6), .int (q7_isLaid r17), .ref a0_counted, .ref a0_steps, .ref a0_onto, .ref a0_goes, .int (q7_found o0), .int (q7_images o0), .ref a0_firstImage, .int (q7_gathered o0)])), (a0_now, .inl (zI Z, 12, .inl (q7_now o0))), (a0_made, .inl (zI Z, 12, .inl v21.2)), (a0_history, .inl (zI Z, 96, .inl (q7_history r17))), (a0_closed, .inl (zI Z, 256, .inl (q7_closed r6))), (a0_faces, .inl (zI Z, 256, .inl (q7_faces r6))), (a0_rankOf, .inl (zI Z, 256, .inl (q7_rankOf r6))), (a0_placeOf, .inl (zI Z, 256, .inl (q7_placeOf r6)))]) rfl rfl rfl rfl ?_
          unfold fX7_figure_L110 at h
          refine g_iload C dX7_figure_110 6 rfl ?_
          refine g_aload_n C dX7_figure_112 rfl 0 rfl ?_
          refine g_get C 7 214 gin7 0 rfl rfl 18 (by decide) mw_5_103 rfl rfl dX7_figure_113 ?_
          refine g_icmp_ge C 173 dX7_figure_116 (by decide) (fun c31 => ?_) (fun c31 => ?_)
          · replace h := it_t c31 h
            obtain ⟨r32, h, hy⟩ := ex_of h
            rw [hx2 r32 hy] at h
            refine g_aload_n C dX7_figure_173 rfl 0 rfl ?_
            refine g_iload C dX7_figure_174 4 rfl ?_
            obtain ⟨r33, hr34, h⟩ := bd_of h
            refine g_callVv C (kX7_add l Z a0 a0_buffer a0_now a0_made a0_history a0_saved a0_closed a0_faces a0_rankOf a0_placeOf a0_counted a0_steps a0_onto a0_goes a0_firstImage (s7_isLaid (s7_faceMany (s7_placeOf (s7_rankOf (s7_faces (s7_closed (s7_entries (s7_history (s7_made (s7_thrown o0 (q7_thrown r14.2)) v21.2) (q7_history r17)) (q7_entries r17)) (q7_closed r6)) (q7_faces r6)) (q7_rankOf r6)) (q7_placeOf r6)) (q7_faceMany r6)) (q7_isLaid r17)) v30.1 r33 hr34) 0 rfl (ci := 7) rfl rfl myX7_add 130 mw_6_17 rfl [0, 2] [1, 3, 4, 5, 6, 7] [6, 0, 7, 1, 2, 3, 4, 5] (wr := [(a0_now, .inl (zI Z, 12, .inl (q7_now o0))), (a0_history, .inl (zI Z, 96, .inl (q7_history r17))), (a0_closed, .inl (zI Z, 256, .inl (q7_closed r6))), (a0_faces, .inl (zI Z, 256, .inl (q7_faces r6))), (a0_rankOf, .inl (zI Z, 256, .inl (q7_rankOf r6))), (a0_placeOf, .inl (zI Z, 256, .inl (q7_placeOf r6)))]) rfl rfl (by decide) (by decide) (by decide) [(a0, .inr (7, [.int (q7_thrown r14.2), .ref a0_buffer, .int (q7_length o0), .int (q7_at o0), .int (q7_from o0), .int (q7_kind o0), .int (q7_number o0), .int (q7_wrong o0), .ref a0_now, .ref a0_made, .ref a0_history, .ref a0_saved, .int (q7_entries r17), .int (q7_isSaved o0), .ref a0_closed, .ref a0_faces, .ref a0_rankOf, .ref a0_placeOf, .int (q7_faceMany r6), .int (q7_isLaid r17), .ref a0_counted, .ref a0_steps, .ref a0_onto, .ref a0_goes, .int (q7_found o0), .int (q7_images o0), .ref a0_firstImage, .int (q7_gathered o0)])), (a0_now, .inl (zI Z, 12, .inl (q7_now o0))), (a0_made, .inl (zI Z, 12, .inl (q7_made r33))), (a0_history, .inl (zI Z, 96, .inl (q7_history r17))), (a0_closed, .inl (zI Z, 256, .inl (q7_closed r6))), (a0_faces, .inl (zI Z, 256, .inl (q7_faces r6))), (a0_rankOf, .inl (zI Z, 256, .inl (q7_rankOf r6))), (a0_placeOf, .inl (zI Z, 256, .inl (q7_placeOf r6)))] rfl (by decide) (Nat.le_of_ble_eq_true rfl) (by rw [hR]; exact Nat.le_of_ble_eq_true rfl) (by rw [hR]; exact Nat.le_of_ble_eq_true rfl) ⟨by rw [hR]; exact Nat.le_of_ble_eq_true rfl, by rw [hR]; exact Nat.le_of_ble_eq_true rfl⟩ rfl dX7_figure_176 ?_
            refine g_iinc C (v21.1 + 1) dX7_figure_179 3 rfl rfl (by decide) [(4, .int (v21.1 + 1)), (0, .ref a0), (1, .int p1), (2, .int ((q7_placeOf r6) (ix ((q7_closed r6) (ix (jshl 1 p1)))))), (5, .int v30.1), (6, .int v30.2.1), (7, .int v30.2.2)] rfl ?_
            refine g_goto C 74 dX7_figure_182 (by decide) ?_
            refine g_lv [1, 2, 3, 0] [(0, .ref a0), (1, .int p1), (2, .int ((q7_placeOf r6) (ix ((q7_closed r6) (ix (jshl 1 p1)))))), (4, .int (v21.1 + 1))] rfl ?_
            exact hk1 ((v21.1 + 1), (q7_made r33)) (Option.some.inj h).symm
          · replace h := it_f c31 h
            refine g_aload_n C dX7_figure_119 rfl 0 rfl ?_
            refine g_iload C dX7_figure_120 6 rfl ?_
            refine g_iload_n C dX7_figure_122 rfl 2 rfl ?_
            obtain ⟨r35, hr36, h⟩ := bd_of h
            refine g_callVi C (kX7_covers l Z a0 a0_buffer a0_now a0_made a0_history a0_saved a0_closed a0_faces a0_rankOf a0_placeOf a0_counted a0_steps a0_onto a0_goes a0_firstImage (s7_isLaid (s7_faceMany (s7_placeOf (s7_rankOf (s7_faces (s7_closed (s7_entries (s7_history (s7_made (s7_thrown o0 (q7_thrown r14.2)) v21.2) (q7_history r17)) (q7_entries r17)) (q7_closed r6)) (q7_faces r6)) (q7_rankOf r6)) (q7_placeOf r6)) (q7_faceMany r6)) (q7_isLaid r17)) v30.2.2 ((q7_placeOf r6) (ix ((q7_closed r6) (ix (jshl 1 p1))))) r35 hr36) 0 rfl (ci := 7) rfl rfl myX7_covers 241 mw_6_152 rfl [0, 4, 5] [1, 2, 3, 6, 7] [5, 0, 1, 2, 6, 7, 3, 4] (wr := [(a0_now, .inl (zI Z, 12, .inl (q7_now o0))), (a0_made, .inl (zI Z, 12, .inl v21.2)), (a0_history, .inl (zI Z, 96, .inl (q7_history r17))), (a0_rankOf, .inl (zI Z, 256, .inl (q7_rankOf r6))), (a0_placeOf, .inl (zI Z, 256, .inl (q7_placeOf r6)))]) rfl rfl (by decide) (by decide) (by decide) [(a0, .inr (7, [.int (q7_thrown r14.2), .ref a0_buffer, .int (q7_length o0), .int (q7_at o0), .int (q7_from o0), .int (q7_kind o0), .int (q7_number o0), .int (q7_wrong o0), .ref a0_now, .ref a0_made, .ref a0_history, .ref a0_saved, .int (q7_entries r17), .int (q7_isSaved o0), .ref a0_closed, .ref a0_faces, .ref a0_rankOf, .ref a0_placeOf, .int (q7_faceMany r6), .int (q7_isLaid r17), .ref a0_counted, .ref a0_steps, .ref a0_onto, .ref a0_goes, .int (q7_found o0), .int (q7_images o0), .ref a0_firstImage, .int (q7_gathered o0)])), (a0_now, .inl (zI Z, 12, .inl (q7_now o0))), (a0_made, .inl (zI Z, 12, .inl v21.2)), (a0_history, .inl (zI Z, 96, .inl (q7_history r17))), (a0_closed, .inl (zI Z, 256, .inl (q7_closed r6))), (a0_faces, .inl (zI Z, 256, .inl (q7_faces r6))), (a0_rankOf, .inl (zI Z, 256, .inl (q7_rankOf r6))), (a0_placeOf, .inl (zI Z, 256, .inl (q7_placeOf r6)))] rfl (by decide) (Nat.le_of_ble_eq_true rfl) (by rw [hR]; exact Nat.le_of_ble_eq_true rfl) (by rw [hR]; exact Nat.le_of_ble_eq_true rfl) ⟨by rw [hR]; exact Nat.le_of_ble_eq_true rfl, by rw [hR]; exact Nat.le_of_ble_eq_true rfl⟩ rfl dX7_figure_123 ?_
            refine g_if_eq C 167 dX7_figure_126 (by decide) (fun c37 => ?_) (fun c37 => ?_)
            · replace h := it_t c37 h
              refine g_iinc C (v30.2.2 + 1) dX7_figure_167 6 rfl rfl (by decide) [(7, .int (v30.2.2 + 1)), (0, .ref a0), (1, .int p1), (2, .int ((q7_placeOf r6) (ix ((q7_closed r6) (ix (jshl 1 p1)))))), (4, .int v21.1), (5, .int v30.1), (6, .int v30.2.1)] rfl ?_
              refine g_goto C 110 dX7_figure_170 (by decide) ?_
              refine g_lv [1, 2, 3, 4, 5, 6, 0] [(0, .ref a0), (1, .int p1), (2, .int ((q7_placeOf r6) (ix ((q7_closed r6) (ix (jshl 1 p1)))))), (4, .int v21.1), (5, .int v30.1), (6, .int v30.2.1), (7, .int (v30.2.2 + 1))] rfl ?_
              exact hk2 (v30.1, v30.2.1, (v30.2.2 + 1)) (Option.some.inj h).symm
            · replace h := it_f c37 h
              refine g_iload C dX7_figure_129 4 rfl ?_
              refine g_aload_n C dX7_figure_131 rfl 0 rfl ?_
              refine g_get C 7 13 gin7 0 rfl rfl 8 (by decide) mw_5_93 rfl rfl dX7_figure_132 ?_
              refine g_iconst C 2 dX7_figure_135 (by decide) ?_
              refine g_iload C dX7_figure_136 3 rfl ?_
              refine g_iadd C dX7_figure_138 ?_
              obtain ⟨hi38, h⟩ := ck_of h
              refine g_iald C 1 rfl hi38 dX7_figure_139 ?_
              refine g_aload_n C dX7_figure_140 rfl 0 rfl ?_
              refine g_get C 7 28 gin7 0 rfl rfl 15 (by decide) mw_5_100 rfl rfl dX7_figure_141 ?_
              refine g_iload C dX7_figure_144 6 rfl ?_
              obtain ⟨hi39, h⟩ := ck_of h
              refine g_iald C 5 rfl hi39 dX7_figure_146 ?_
              obtain ⟨r40, hr41, h⟩ := bd_of h
              refine g_callSi C (kX7_holds l Z ((q7_now o0) (ix (2 + v21.1))) ((q7_faces r6) (ix v30.2.2)) r40 hr41) myX7_holds 199 mw_6_128 rfl [] [0, 1, 2, 3, 4, 5, 6, 7] [0, 1, 2, 3, 4, 5, 6, 7] (wr := [(a0, .inr (7, [.int (q7_thrown r14.2), .ref a0_buffer, .int (q7_length o0), .int (q7_at o0), .int (q7_from o0), .int (q7_kind o0), .int (q7_number o0), .int (q7_wrong o0), .ref a0_now, .ref a0_made, .ref a0_history, .ref a0_saved, .int (q7_entries r17), .int (q7_isSaved o0), .ref a0_closed, .ref a0_faces, .ref a0_rankOf, .ref a0_placeOf, .int (q7_faceMany r6), .int (q7_isLaid r17), .ref a0_counted, .ref a0_steps, .ref a0_onto, .ref a0_goes, .int (q7_found o0), .int (q7_images o0), .ref a0_firstImage, .int (q7_gathered o0)])), (a0_now, .inl (zI Z, 12, .inl (q7_now o0))), (a0_made, .inl (zI Z, 12, .inl v21.2)), (a0_history, .inl (zI Z, 96, .inl (q7_history r17))), (a0_closed, .inl (zI Z, 256, .inl (q7_closed r6))), (a0_faces, .inl (zI Z, 256, .inl (q7_faces r6))), (a0_rankOf, .inl (zI Z, 256, .inl (q7_rankOf r6))), (a0_placeOf, .inl (zI Z, 256, .inl (q7_placeOf r6)))]) rfl rfl (by decide) (by decide) (by decide) [(a0, .inr (7, [.int (q7_thrown r14.2), .ref a0_buffer, .int (q7_length o0), .int (q7_at o0), .int (q7_from o0), .int (q7_kind o0), .int (q7_number o0), .int (q7_wrong o0), .ref a0_now, .ref a0_made, .ref a0_history, .ref a0_saved, .int (q7_entries r17), .int (q7_isSaved o0), .ref a0_closed, .ref a0_faces, .ref a0_rankOf, .ref a0_placeOf, .int (q7_faceMany r6), .int (q7_isLaid r17), .ref a0_counted, .ref a0_steps, .ref a0_onto, .ref a0_goes, .int (q7_found o0), .int (q7_images o0), .ref a0_firstImage, .int (q7_gathered o0)])), (a0_now, .inl (zI Z, 12, .inl (q7_now o0))), (a0_made, .inl (zI Z, 12, .inl v21.2)), (a0_history, .inl (zI Z, 96, .inl (q7_history r17))), (a0_closed, .inl (zI Z, 256, .inl (q7_closed r6))), (a0_faces, .inl (zI Z, 256, .inl (q7_faces r6))), (a0_rankOf, .inl (zI Z, 256, .inl (q7_rankOf r6))), (a0_placeOf, .inl (zI Z, 256, .inl (q7_placeOf r6)))] rfl (by decide) (Nat.le_of_ble_eq_true rfl) (by rw [hR]; exact Nat.le_of_ble_eq_true rfl) (by rw [hR]; exact Nat.le_of_ble_eq_true rfl) ⟨by rw [hR]; exact Nat.le_of_ble_eq_true rfl, by rw [hR]; exact Nat.le_of_ble_eq_true rfl⟩ rfl dX7_figure_147 ?_
              refine g_if_eq C 160 dX7_figure_150 (by decide) (fun c42 => ?_) (fun c42 => ?_)
              · replace h := it_t c42 h
                refine g_iconst C 0 dX7_figure_160 (by decide) ?_
                refine g_ior C dX7_figure_161 ?_
                refine g_istore C dX7_figure_162 (by decide) [(5, .int (v30.1 ||| 0)), (0, .ref a0), (1, .int p1), (2, .int ((q7_placeOf r6) (ix ((q7_closed r6) (ix (jshl 1 p1)))))), (4, .int v21.1), (6, .int v30.2.1), (7, .int v30.2.2)] rfl ?_
                refine g_iinc C (v30.2.1 + 1) dX7_figure_164 5 rfl rfl (by decide) [(6, .int (v30.2.1 + 1)), (5, .int (v30.1 ||| 0)), (0, .ref a0), (1, .int p1), (2, .int ((q7_placeOf r6) (ix ((q7_closed r6) (ix (jshl 1 p1)))))), (4, .int v21.1), (7, .int v30.2.2)] rfl ?_
                refine g_iinc C (v30.2.2 + 1) dX7_figure_167 6 rfl rfl (by decide) [(7, .int (v30.2.2 + 1)), (6, .int (v30.2.1 + 1)), (5, .int (v30.1 ||| 0)), (0, .ref a0), (1, .int p1), (2, .int ((q7_placeOf r6) (ix ((q7_closed r6) (ix (jshl 1 p1)))))), (4, .int v21.1)] rfl ?_
                refine g_goto C 110 dX7_figure_170 (by decide) ?_
                refine g_lv [3, 4, 5, 6, 2, 1, 0] [(0, .ref a0), (1, .int p1), (2, .int ((q7_placeOf r6) (ix ((q7_closed r6) (ix (jshl 1 p1)))))), (4, .int v21.1), (5, .int (v30.1 ||| 0)), (6, .int (v30.2.1 + 1)), (7, .int (v30.2.2 + 1))] rfl ?_
                exact hk2 ((v30.1 ||| 0), (v30.2.1 + 1), (v30.2.2 + 1)) (Option.some.inj h).symm
              · replace h := it_f c42 h
                refine g_iconst C 1 dX7_figure_153 (by decide) ?_
                refine g_iload C dX7_figure_154 5 rfl ?_
                refine g_ishl C dX7_figure_156 ?_
                refine g_goto C 161 dX7_figure_157 (by decide) ?_
                refine g_ior C dX7_figure_161 ?_
                refine g_istore C dX7_figure_162 (by decide) [(5, .int (v30.1 ||| (jshl 1 v30.2.1))), (0, .ref a0), (1, .int p1), (2, .int ((q7_placeOf r6) (ix ((q7_closed r6) (ix (jshl 1 p1)))))), (4, .int v21.1), (6, .int v30.2.1), (7, .int v30.2.2)] rfl ?_
                refine g_iinc C (v30.2.1 + 1) dX7_figure_164 5 rfl rfl (by decide) [(6, .int (v30.2.1 + 1)), (5, .int (v30.1 ||| (jshl 1 v30.2.1))), (0, .ref a0), (1, .int p1), (2, .int ((q7_placeOf r6) (ix ((q7_closed r6) (ix (jshl 1 p1)))))), (4, .int v21.1), (7, .int v30.2.2)] rfl ?_
                refine g_iinc C (v30.2.2 + 1) dX7_figure_167 6 rfl rfl (by decide) [(7, .int (v30.2.2 + 1)), (6, .int (v30.2.1 + 1)), (5, .int (v30.1 ||| (jshl 1 v30.2.1))), (0, .ref a0), (1, .int p1), (2, .int ((q7_placeOf r6) (ix ((q7_closed r6) (ix (jshl 1 p1)))))), (4, .int v21.1)] rfl ?_
                refine g_goto C 110 dX7_figure_170 (by decide) ?_
                refine g_lv [3, 4, 5, 6, 2, 1, 0] [(0, .ref a0), (1, .int p1), (2, .int ((q7_placeOf r6) (ix ((q7_closed r6) (ix (jshl 1 p1)))))), (4, .int v21.1), (5, .int (v30.1 ||| (jshl 1 v30.2.1))), (6, .int (v30.2.1 + 1)), (7, .int (v30.2.2 + 1))] rfl ?_
                exact hk2 ((v30.1 ||| (jshl 1 v30.2.1)), (v30.2.1 + 1), (v30.2.2 + 1)) (Option.some.inj h).symm
    · replace h := it_f c16 h
      refine g_iconst C 0 dX7_figure_60 (by decide) ?_
      obtain rfl := Option.some.inj h
      subst hQ
      exact g_iret C rfl hr hlk dX7_figure_61 [0, 1, 2, 3, 4, 5, 6, 7] rfl (by decide)
  · replace h := it_f c5 h
    refine g_iconst C 0 dX7_figure_18 (by decide) ?_
    obtain rfl := Option.some.inj h
    subst hQ
    exact g_iret C rfl hr hlk dX7_figure_19 [0, 1, 2, 3, 4, 5, 6, 7] rfl (by decide)
def fX7_pointCount (o0 : OX7) : Option (Int32 × OX7) :=
  some (((q7_now o0) (ix 0)), (s7_thrown o0 0))
theorem myX7_pointCount : MYv yX7_pointCount cX7_pointCount 1 (some .int) 0 := ⟨mw_6_186, mw_6_187, mw_6_188, mw_1_9, ⟨by decide +kernel, by decide +kernel⟩, by decide +kernel⟩
set_option maxRecDepth 100000 in
set_option maxHeartbeats 4000000 in
theorem kX7_pointCount (l : Launch) (Z : GZ) (a0 a0_buffer a0_now a0_made a0_history a0_saved a0_closed a0_faces a0_rankOf a0_placeOf a0_counted a0_steps a0_onto a0_goes a0_firstImage : Nat) (o0 : OX7) (res : Int32 × OX7) (h : fX7_pointCount o0 = some res) : MI l Z yX7_pointCount cX7_pointCount 1 .int 0 0 [.ref a0] [(a0, .inr (7, [.int (q7_thrown o0), .ref a0_buffer, .int (q7_length o0), .int (q7_at o0), .int (q7_from o0), .int (q7_kind o0), .int (q7_number o0), .int (q7_wrong o0), .ref a0_now, .ref a0_made, .ref a0_history, .ref a0_saved, .int (q7_entries o0), .int (q7_isSaved o0), .ref a0_closed, .ref a0_faces, .ref a0_rankOf, .ref a0_placeOf, .int (q7_faceMany o0), .int (q7_isLaid o0), .ref a0_counted, .ref a0_steps, .ref a0_onto, .ref a0_goes, .int (q7_found o0), .int (q7_images o0), .ref a0_firstImage, .int (q7_gathered o0)])), (a0_now, .inl (zI Z, 12, .inl (q7_now o0)))] res.1 [(a0, .inr (7, [.int (q7_thrown res.2), .ref a0_buffer, .int (q7_length o0), .int (q7_at o0), .int (q7_from o0), .int (q7_kind o0), .int (q7_number o0), .int (q7_wrong o0), .ref a0_now, .ref a0_made, .ref a0_history, .ref a0_saved, .int (q7_entries o0), .int (q7_isSaved o0), .ref a0_closed, .ref a0_faces, .ref a0_rankOf, .ref a0_placeOf, .int (q7_faceMany o0), .int (q7_isLaid o0), .ref a0_counted, .ref a0_steps, .ref a0_onto, .ref a0_goes, .int (q7_found o0), .int (q7_images o0), .ref a0_firstImage, .int (q7_gathered o0)])), (a0_now, .inl (zI Z, 12, .inl (q7_now o0)))] := by
  refine MI_of (by decide +kernel) (Nat.le_of_ble_eq_true rfl) (fun {p e s m args below meth c} A R hR Q hQ C hr hlk => ?_)
  unfold fX7_pointCount at h
  refine g_lv [0] [(0, .ref a0)] rfl ?_
  refine g_aload_n C dX7_pointCount_0 rfl 0 rfl ?_
  refine g_iconst C 0 dX7_pointCount_1 (by decide) ?_
  refine g_put C 7 52 gin7 tyX7 tyX7_ok nmX7 0 rfl rfl 0 (by decide) mw_5_85 rfl rfl (ty := .int) (by decide +kernel) rfl rfl (Nat.le_of_ble_eq_true rfl) [(a0, .inr (7, [.int 0, .ref a0_buffer, .int (q7_length o0), .int (q7_at o0), .int (q7_from o0), .int (q7_kind o0), .int (q7_number o0), .int (q7_wrong o0), .ref a0_now, .ref a0_made, .ref a0_history, .ref a0_saved, .int (q7_entries o0), .int (q7_isSaved o0), .ref a0_closed, .ref a0_faces, .ref a0_rankOf, .ref a0_placeOf, .int (q7_faceMany o0), .int (q7_isLaid o0), .ref a0_counted, .ref a0_steps, .ref a0_onto, .ref a0_goes, .int (q7_found o0), .int (q7_images o0), .ref a0_firstImage, .int (q7_gathered o0)])), (a0_now, .inl (zI Z, 12, .inl (q7_now o0)))] rfl dX7_pointCount_2 ?_
  refine g_aload_n C dX7_pointCount_5 rfl 0 rfl ?_
  refine g_get C 7 13 gin7 0 rfl rfl 8 (by decide) mw_5_93 rfl rfl dX7_pointCount_6 ?_
  refine g_iconst C 0 dX7_pointCount_9 (by decide) ?_
  refine g_iald C 1 rfl (by decide) dX7_pointCount_10 ?_
  obtain rfl := Option.some.inj h
  subst hQ
  exact g_iret C rfl hr hlk dX7_pointCount_11 [0, 1] rfl (by decide)
def fX7_facetCount (o0 : OX7) : Option (Int32 × OX7) :=
  some (((q7_now o0) (ix 1)), (s7_thrown o0 0))
theorem myX7_facetCount : MYv yX7_facetCount cX7_facetCount 1 (some .int) 0 := ⟨mw_6_190, mw_6_191, mw_6_192, mw_1_9, ⟨by decide +kernel, by decide +kernel⟩, by decide +kernel⟩
set_option maxRecDepth 100000 in
set_option maxHeartbeats 4000000 in
theorem kX7_facetCount (l : Launch) (Z : GZ) (a0 a0_buffer a0_now a0_made a0_history a0_saved a0_closed a0_faces a0_rankOf a0_placeOf a0_counted a0_steps a0_onto a0_goes a0_firstImage : Nat) (o0 : OX7) (res : Int32 × OX7) (h : fX7_facetCount o0 = some res) : MI l Z yX7_facetCount cX7_facetCount 1 .int 0 0 [.ref a0] [(a0, .inr (7, [.int (q7_thrown o0), .ref a0_buffer, .int (q7_length o0), .int (q7_at o0), .int (q7_from o0), .int (q7_kind o0), .int (q7_number o0), .int (q7_wrong o0), .ref a0_now, .ref a0_made, .ref a0_history, .ref a0_saved, .int (q7_entries o0), .int (q7_isSaved o0), .ref a0_closed, .ref a0_faces, .ref a0_rankOf, .ref a0_placeOf, .int (q7_faceMany o0), .int (q7_isLaid o0), .ref a0_counted, .ref a0_steps, .ref a0_onto, .ref a0_goes, .int (q7_found o0), .int (q7_images o0), .ref a0_firstImage, .int (q7_gathered o0)])), (a0_now, .inl (zI Z, 12, .inl (q7_now o0)))] res.1 [(a0, .inr (7, [.int (q7_thrown res.2), .ref a0_buffer, .int (q7_length o0), .int (q7_at o0), .int (q7_from o0), .int (q7_kind o0), .int (q7_number o0), .int (q7_wrong o0), .ref a0_now, .ref a0_made, .ref a0_history, .ref a0_saved, .int (q7_entries o0), .int (q7_isSaved o0), .ref a0_closed, .ref a0_faces, .ref a0_rankOf, .ref a0_placeOf, .int (q7_faceMany o0), .int (q7_isLaid o0), .ref a0_counted, .ref a0_steps, .ref a0_onto, .ref a0_goes, .int (q7_found o0), .int (q7_images o0), .ref a0_firstImage, .int (q7_gathered o0)])), (a0_now, .inl (zI Z, 12, .inl (q7_now o0)))] := by
  refine MI_of (by decide +kernel) (Nat.le_of_ble_eq_true rfl) (fun {p e s m args below meth c} A R hR Q hQ C hr hlk => ?_)
  unfold fX7_facetCount at h
  refine g_lv [0] [(0, .ref a0)] rfl ?_
  refine g_aload_n C dX7_facetCount_0 rfl 0 rfl ?_
  refine g_iconst C 0 dX7_facetCount_1 (by decide) ?_
  refine g_put C 7 52 gin7 tyX7 tyX7_ok nmX7 0 rfl rfl 0 (by decide) mw_5_85 rfl rfl (ty := .int) (by decide +kernel) rfl rfl (Nat.le_of_ble_eq_true rfl) [(a0, .inr (7, [.int 0, .ref a0_buffer, .int (q7_length o0), .int (q7_at o0), .int (q7_from o0), .int (q7_kind o0), .int (q7_number o0), .int (q7_wrong o0), .ref a0_now, .ref a0_made, .ref a0_history, .ref a0_saved, .int (q7_entries o0), .int (q7_isSaved o0), .ref a0_closed, .ref a0_faces, .ref a0_rankOf, .ref a0_placeOf, .int (q7_faceMany o0), .int (q7_isLaid o0), .ref a0_counted, .ref a0_steps, .ref a0_onto, .ref a0_goes, .int (q7_found o0), .int (q7_images o0), .ref a0_firstImage, .int (q7_gathered o0)])), (a0_now, .inl (zI Z, 12, .inl (q7_now o0)))] rfl dX7_facetCount_2 ?_
  refine g_aload_n C dX7_facetCount_5 rfl 0 rfl ?_
  refine g_get C 7 13 gin7 0 rfl rfl 8 (by decide) mw_5_93 rfl rfl dX7_facetCount_6 ?_
  refine g_iconst C 1 dX7_facetCount_9 (by decide) ?_
  refine g_iald C 1 rfl (by decide) dX7_facetCount_10 ?_
  obtain rfl := Option.some.inj h
  subst hQ
  exact g_iret C rfl hr hlk dX7_facetCount_11 [0, 1] rfl (by decide)
def fX7_facet (o0 : OX7) (p1 : Int32) : Option (Int32 × OX7) :=
  (fX7_isFacet (s7_thrown o0 0) p1).bind fun r1 =>
  ((fX7_fails (s7_thrown o0 0) r1 1).bind fun r3 =>
  (if r3.1 = 0 then (ck (okI (2 + p1) 12) (some (((q7_now o0) (ix (2 + p1))), (s7_thrown o0 (q7_thrown r3.2)))))
  else (some (0, (s7_thrown o0 (q7_thrown r3.2))))))
theorem myX7_facet : MYv yX7_facet cX7_facet 2 (some .int) 1 := ⟨mw_6_194, mw_6_195, mw_6_196, mw_1_9, ⟨by decide +kernel, by decide +kernel⟩, by decide +kernel⟩
set_option maxRecDepth 100000 in
set_option maxHeartbeats 4000000 in
theorem kX7_facet (l : Launch) (Z : GZ) (a0 a0_buffer a0_now a0_made a0_history a0_saved a0_closed a0_faces a0_rankOf a0_placeOf a0_counted a0_steps a0_onto a0_goes a0_firstImage : Nat) (o0 : OX7) (p1 : Int32) (res : Int32 × OX7) (h : fX7_facet o0 p1 = some res) : MI l Z yX7_facet cX7_facet 2 .int 2 43 [.ref a0, .int p1] [(a0, .inr (7, [.int (q7_thrown o0), .ref a0_buffer, .int (q7_length o0), .int (q7_at o0), .int (q7_from o0), .int (q7_kind o0), .int (q7_number o0), .int (q7_wrong o0), .ref a0_now, .ref a0_made, .ref a0_history, .ref a0_saved, .int (q7_entries o0), .int (q7_isSaved o0), .ref a0_closed, .ref a0_faces, .ref a0_rankOf, .ref a0_placeOf, .int (q7_faceMany o0), .int (q7_isLaid o0), .ref a0_counted, .ref a0_steps, .ref a0_onto, .ref a0_goes, .int (q7_found o0), .int (q7_images o0), .ref a0_firstImage, .int (q7_gathered o0)])), (a0_now, .inl (zI Z, 12, .inl (q7_now o0)))] res.1 [(a0, .inr (7, [.int (q7_thrown res.2), .ref a0_buffer, .int (q7_length o0), .int (q7_at o0), .int (q7_from o0), .int (q7_kind o0), .int (q7_number o0), .int (q7_wrong o0), .ref a0_now, .ref a0_made, .ref a0_history, .ref a0_saved, .int (q7_entries o0), .int (q7_isSaved o0), .ref a0_closed, .ref a0_faces, .ref a0_rankOf, .ref a0_placeOf, .int (q7_faceMany o0), .int (q7_isLaid o0), .ref a0_counted, .ref a0_steps, .ref a0_onto, .ref a0_goes, .int (q7_found o0), .int (q7_images o0), .ref a0_firstImage, .int (q7_gathered o0)])), (a0_now, .inl (zI Z, 12, .inl (q7_now o0)))] := by
  refine MI_of (by decide +kernel) (Nat.le_of_ble_eq_true rfl) (fun {p e s m args below meth c} A R hR Q hQ C hr hlk => ?_)
  unfold fX7_facet at h
  refine g_lv [0, 1] [(0, .ref a0), (1, .int p1)] rfl ?_
  refine g_aload_n C dX7_facet_0 rfl 0 rfl ?_
  refine g_iconst C 0 dX7_facet_1 (by decide) ?_
  refine g_put C 7 52 gin7 tyX7 tyX7_ok nmX7 0 rfl rfl 0 (by decide) mw_5_85 rfl rfl (ty := .int) (by decide +kernel) rfl rfl (Nat.le_of_ble_eq_true rfl) [(a0, .inr (7, [.int 0, .ref a0_buffer, .int (q7_length o0), .int (q7_at o0), .int (q7_from o0), .int (q7_kind o0), .int (q7_number o0), .int (q7_wrong o0), .ref a0_now, .ref a0_made, .ref a0_history, .ref a0_saved, .int (q7_entries o0), .int (q7_isSaved o0), .ref a0_closed, .ref a0_faces, .ref a0_rankOf, .ref a0_placeOf, .int (q7_faceMany o0), .int (q7_isLaid o0), .ref a0_counted, .ref a0_steps, .ref a0_onto, .ref a0_goes, .int (q7_found o0), .int (q7_images o0), .ref a0_firstImage, .int (q7_gathered o0)])), (a0_now, .inl (zI Z, 12, .inl (q7_now o0)))] rfl dX7_facet_2 ?_
  refine g_aload_n C dX7_facet_5 rfl 0 rfl ?_
  refine g_aload_n C dX7_facet_6 rfl 0 rfl ?_
  refine g_iload_n C dX7_facet_7 rfl 1 rfl ?_
  obtain ⟨r1, hr2, h⟩ := bd_of h
  refine g_callVi C (kX7_isFacet l Z a0 a0_buffer a0_now a0_made a0_history a0_saved a0_closed a0_faces a0_rankOf a0_placeOf a0_counted a0_steps a0_onto a0_goes a0_firstImage (s7_thrown o0 0) p1 r1 hr2) 0 rfl (ci := 7) rfl rfl myX7_isFacet 223 mw_6_80 rfl [0, 1] [] [0, 1] (wr := []) rfl rfl (by decide) (by decide) (by decide) [(a0, .inr (7, [.int 0, .ref a0_buffer, .int (q7_length o0), .int (q7_at o0), .int (q7_from o0), .int (q7_kind o0), .int (q7_number o0), .int (q7_wrong o0), .ref a0_now, .ref a0_made, .ref a0_history, .ref a0_saved, .int (q7_entries o0), .int (q7_isSaved o0), .ref a0_closed, .ref a0_faces, .ref a0_rankOf, .ref a0_placeOf, .int (q7_faceMany o0), .int (q7_isLaid o0), .ref a0_counted, .ref a0_steps, .ref a0_onto, .ref a0_goes, .int (q7_found o0), .int (q7_images o0), .ref a0_firstImage, .int (q7_gathered o0)])), (a0_now, .inl (zI Z, 12, .inl (q7_now o0)))] rfl (by decide) (Nat.le_of_ble_eq_true rfl) (by rw [hR]; exact Nat.le_of_ble_eq_true rfl) (by rw [hR]; exact Nat.le_of_ble_eq_true rfl) ⟨by rw [hR]; exact Nat.le_of_ble_eq_true rfl, by rw [hR]; exact Nat.le_of_ble_eq_true rfl⟩ rfl dX7_facet_8 ?_
  refine g_iconst C 1 dX7_facet_11 (by decide) ?_
  obtain ⟨r3, hr4, h⟩ := bd_of h
  refine g_callVi C (kX7_fails l Z a0 a0_buffer a0_now a0_made a0_history a0_saved a0_closed a0_faces a0_rankOf a0_placeOf a0_counted a0_steps a0_onto a0_goes a0_firstImage (s7_thrown o0 0) r1 1 r3 hr4) 0 rfl (ci := 7) rfl rfl myX7_fails 63 mw_5_181 rfl [0] [1] [1, 0] (wr := [(a0_now, .inl (zI Z, 12, .inl (q7_now o0)))]) rfl rfl (by decide) (by decide) (by decide) [(a0, .inr (7, [.int (q7_thrown r3.2), .ref a0_buffer, .int (q7_length o0), .int (q7_at o0), .int (q7_from o0), .int (q7_kind o0), .int (q7_number o0), .int (q7_wrong o0), .ref a0_now, .ref a0_made, .ref a0_history, .ref a0_saved, .int (q7_entries o0), .int (q7_isSaved o0), .ref a0_closed, .ref a0_faces, .ref a0_rankOf, .ref a0_placeOf, .int (q7_faceMany o0), .int (q7_isLaid o0), .ref a0_counted, .ref a0_steps, .ref a0_onto, .ref a0_goes, .int (q7_found o0), .int (q7_images o0), .ref a0_firstImage, .int (q7_gathered o0)])), (a0_now, .inl (zI Z, 12, .inl (q7_now o0)))] rfl (by decide) (Nat.le_of_ble_eq_true rfl) (by rw [hR]; exact Nat.le_of_ble_eq_true rfl) (by rw [hR]; exact Nat.le_of_ble_eq_true rfl) ⟨by rw [hR]; exact Nat.le_of_ble_eq_true rfl, by rw [hR]; exact Nat.le_of_ble_eq_true rfl⟩ rfl dX7_facet_12 ?_
  refine g_if_eq C 22 dX7_facet_15 (by decide) (fun c5 => ?_) (fun c5 => ?_)
  · replace h := it_t c5 h
    refine g_aload_n C dX7_facet_22 rfl 0 rfl ?_
    refine g_get C 7 13 gin7 0 rfl rfl 8 (by decide) mw_5_93 rfl rfl dX7_facet_23 ?_
    refine g_iconst C 2 dX7_facet_26 (by decide) ?_
    refine g_iload_n C dX7_facet_27 rfl 1 rfl ?_
    refine g_iadd C dX7_facet_28 ?_
    obtain ⟨hi6, h⟩ := ck_of h
    refine g_iald C 1 rfl hi6 dX7_facet_29 ?_
    obtain rfl := Option.some.inj h
    subst hQ
    exact g_iret C rfl hr hlk dX7_facet_30 [0, 1] rfl (by decide)
  · replace h := it_f c5 h
    refine g_iconst C 0 dX7_facet_18 (by decide) ?_
    refine g_goto C 30 dX7_facet_19 (by decide) ?_
    obtain rfl := Option.some.inj h
    subst hQ
    exact g_iret C rfl hr hlk dX7_facet_30 [0, 1] rfl (by decide)
def fX7_facetsOf (o0 : OX7) (p1 : Int32) : Option (Int32 × OX7) :=
  (fX7_isPoint (s7_thrown o0 0) p1).bind fun r1 =>
  ((fX7_fails (s7_thrown o0 0) r1 1).bind fun r3 =>
  (if r3.1 = 0 then ((fX7_facetsWith (s7_thrown o0 (q7_thrown r3.2)) p1).bind fun r6 =>
  (some (r6, (s7_thrown o0 (q7_thrown r3.2)))))
  else (some (0, (s7_thrown o0 (q7_thrown r3.2))))))
theorem myX7_facetsOf : MYv yX7_facetsOf cX7_facetsOf 2 (some .int) 1 := ⟨mw_6_198, mw_6_199, mw_6_200, mw_1_9, ⟨by decide +kernel, by decide +kernel⟩, by decide +kernel⟩
set_option maxRecDepth 100000 in
set_option maxHeartbeats 4000000 in
theorem kX7_facetsOf (l : Launch) (Z : GZ) (a0 a0_buffer a0_now a0_made a0_history a0_saved a0_closed a0_faces a0_rankOf a0_placeOf a0_counted a0_steps a0_onto a0_goes a0_firstImage : Nat) (o0 : OX7) (p1 : Int32) (res : Int32 × OX7) (h : fX7_facetsOf o0 p1 = some res) : MI l Z yX7_facetsOf cX7_facetsOf 2 .int 2 44 [.ref a0, .int p1] [(a0, .inr (7, [.int (q7_thrown o0), .ref a0_buffer, .int (q7_length o0), .int (q7_at o0), .int (q7_from o0), .int (q7_kind o0), .int (q7_number o0), .int (q7_wrong o0), .ref a0_now, .ref a0_made, .ref a0_history, .ref a0_saved, .int (q7_entries o0), .int (q7_isSaved o0), .ref a0_closed, .ref a0_faces, .ref a0_rankOf, .ref a0_placeOf, .int (q7_faceMany o0), .int (q7_isLaid o0), .ref a0_counted, .ref a0_steps, .ref a0_onto, .ref a0_goes, .int (q7_found o0), .int (q7_images o0), .ref a0_firstImage, .int (q7_gathered o0)])), (a0_now, .inl (zI Z, 12, .inl (q7_now o0)))] res.1 [(a0, .inr (7, [.int (q7_thrown res.2), .ref a0_buffer, .int (q7_length o0), .int (q7_at o0), .int (q7_from o0), .int (q7_kind o0), .int (q7_number o0), .int (q7_wrong o0), .ref a0_now, .ref a0_made, .ref a0_history, .ref a0_saved, .int (q7_entries o0), .int (q7_isSaved o0), .ref a0_closed, .ref a0_faces, .ref a0_rankOf, .ref a0_placeOf, .int (q7_faceMany o0), .int (q7_isLaid o0), .ref a0_counted, .ref a0_steps, .ref a0_onto, .ref a0_goes, .int (q7_found o0), .int (q7_images o0), .ref a0_firstImage, .int (q7_gathered o0)])), (a0_now, .inl (zI Z, 12, .inl (q7_now o0)))] := by
  refine MI_of (by decide +kernel) (Nat.le_of_ble_eq_true rfl) (fun {p e s m args below meth c} A R hR Q hQ C hr hlk => ?_)
  unfold fX7_facetsOf at h
  refine g_lv [0, 1] [(0, .ref a0), (1, .int p1)] rfl ?_
  refine g_aload_n C dX7_facetsOf_0 rfl 0 rfl ?_
  refine g_iconst C 0 dX7_facetsOf_1 (by decide) ?_
  refine g_put C 7 52 gin7 tyX7 tyX7_ok nmX7 0 rfl rfl 0 (by decide) mw_5_85 rfl rfl (ty := .int) (by decide +kernel) rfl rfl (Nat.le_of_ble_eq_true rfl) [(a0, .inr (7, [.int 0, .ref a0_buffer, .int (q7_length o0), .int (q7_at o0), .int (q7_from o0), .int (q7_kind o0), .int (q7_number o0), .int (q7_wrong o0), .ref a0_now, .ref a0_made, .ref a0_history, .ref a0_saved, .int (q7_entries o0), .int (q7_isSaved o0), .ref a0_closed, .ref a0_faces, .ref a0_rankOf, .ref a0_placeOf, .int (q7_faceMany o0), .int (q7_isLaid o0), .ref a0_counted, .ref a0_steps, .ref a0_onto, .ref a0_goes, .int (q7_found o0), .int (q7_images o0), .ref a0_firstImage, .int (q7_gathered o0)])), (a0_now, .inl (zI Z, 12, .inl (q7_now o0)))] rfl dX7_facetsOf_2 ?_
  refine g_aload_n C dX7_facetsOf_5 rfl 0 rfl ?_
  refine g_aload_n C dX7_facetsOf_6 rfl 0 rfl ?_
  refine g_iload_n C dX7_facetsOf_7 rfl 1 rfl ?_
  obtain ⟨r1, hr2, h⟩ := bd_of h
  refine g_callVi C (kX7_isPoint l Z a0 a0_buffer a0_now a0_made a0_history a0_saved a0_closed a0_faces a0_rankOf a0_placeOf a0_counted a0_steps a0_onto a0_goes a0_firstImage (s7_thrown o0 0) p1 r1 hr2) 0 rfl (ci := 7) rfl rfl myX7_isPoint 220 mw_6_76 rfl [0, 1] [] [0, 1] (wr := []) rfl rfl (by decide) (by decide) (by decide) [(a0, .inr (7, [.int 0, .ref a0_buffer, .int (q7_length o0), .int (q7_at o0), .int (q7_from o0), .int (q7_kind o0), .int (q7_number o0), .int (q7_wrong o0), .ref a0_now, .ref a0_made, .ref a0_history, .ref a0_saved, .int (q7_entries o0), .int (q7_isSaved o0), .ref a0_closed, .ref a0_faces, .ref a0_rankOf, .ref a0_placeOf, .int (q7_faceMany o0), .int (q7_isLaid o0), .ref a0_counted, .ref a0_steps, .ref a0_onto, .ref a0_goes, .int (q7_found o0), .int (q7_images o0), .ref a0_firstImage, .int (q7_gathered o0)])), (a0_now, .inl (zI Z, 12, .inl (q7_now o0)))] rfl (by decide) (Nat.le_of_ble_eq_true rfl) (by rw [hR]; exact Nat.le_of_ble_eq_true rfl) (by rw [hR]; exact Nat.le_of_ble_eq_true rfl) ⟨by rw [hR]; exact Nat.le_of_ble_eq_true rfl, by rw [hR]; exact Nat.le_of_ble_eq_true rfl⟩ rfl dX7_facetsOf_8 ?_
  refine g_iconst C 1 dX7_facetsOf_11 (by decide) ?_
  obtain ⟨r3, hr4, h⟩ := bd_of h
  refine g_callVi C (kX7_fails l Z a0 a0_buffer a0_now a0_made a0_history a0_saved a0_closed a0_faces a0_rankOf a0_placeOf a0_counted a0_steps a0_onto a0_goes a0_firstImage (s7_thrown o0 0) r1 1 r3 hr4) 0 rfl (ci := 7) rfl rfl myX7_fails 63 mw_5_181 rfl [0] [1] [1, 0] (wr := [(a0_now, .inl (zI Z, 12, .inl (q7_now o0)))]) rfl rfl (by decide) (by decide) (by decide) [(a0, .inr (7, [.int (q7_thrown r3.2), .ref a0_buffer, .int (q7_length o0), .int (q7_at o0), .int (q7_from o0), .int (q7_kind o0), .int (q7_number o0), .int (q7_wrong o0), .ref a0_now, .ref a0_made, .ref a0_history, .ref a0_saved, .int (q7_entries o0), .int (q7_isSaved o0), .ref a0_closed, .ref a0_faces, .ref a0_rankOf, .ref a0_placeOf, .int (q7_faceMany o0), .int (q7_isLaid o0), .ref a0_counted, .ref a0_steps, .ref a0_onto, .ref a0_goes, .int (q7_found o0), .int (q7_images o0), .ref a0_firstImage, .int (q7_gathered o0)])), (a0_now, .inl (zI Z, 12, .inl (q7_now o0)))] rfl (by decide) (Nat.le_of_ble_eq_true rfl) (by rw [hR]; exact Nat.le_of_ble_eq_true rfl) (by rw [hR]; exact Nat.le_of_ble_eq_true rfl) ⟨by rw [hR]; exact Nat.le_of_ble_eq_true rfl, by rw [hR]; exact Nat.le_of_ble_eq_true rfl⟩ rfl dX7_facetsOf_12 ?_
  refine g_if_eq C 22 dX7_facetsOf_15 (by decide) (fun c5 => ?_) (fun c5 => ?_)
  · replace h := it_t c5 h
    refine g_aload_n C dX7_facetsOf_22 rfl 0 rfl ?_
    refine g_iload_n C dX7_facetsOf_23 rfl 1 rfl ?_
    obtain ⟨r6, hr7, h⟩ := bd_of h
    refine g_callVi C (kX7_facetsWith l Z a0 a0_buffer a0_now a0_made a0_history a0_saved a0_closed a0_faces a0_rankOf a0_placeOf a0_counted a0_steps a0_onto a0_goes a0_firstImage (s7_thrown o0 (q7_thrown r3.2)) p1 r6 hr7) 0 rfl (ci := 7) rfl rfl myX7_facetsWith 235 mw_6_112 rfl [0, 1] [] [0, 1] (wr := []) rfl rfl (by decide) (by decide) (by decide) [(a0, .inr (7, [.int (q7_thrown r3.2), .ref a0_buffer, .int (q7_length o0), .int (q7_at o0), .int (q7_from o0), .int (q7_kind o0), .int (q7_number o0), .int (q7_wrong o0), .ref a0_now, .ref a0_made, .ref a0_history, .ref a0_saved, .int (q7_entries o0), .int (q7_isSaved o0), .ref a0_closed, .ref a0_faces, .ref a0_rankOf, .ref a0_placeOf, .int (q7_faceMany o0), .int (q7_isLaid o0), .ref a0_counted, .ref a0_steps, .ref a0_onto, .ref a0_goes, .int (q7_found o0), .int (q7_images o0), .ref a0_firstImage, .int (q7_gathered o0)])), (a0_now, .inl (zI Z, 12, .inl (q7_now o0)))] rfl (by decide) (Nat.le_of_ble_eq_true rfl) (by rw [hR]; exact Nat.le_of_ble_eq_true rfl) (by rw [hR]; exact Nat.le_of_ble_eq_true rfl) ⟨by rw [hR]; exact Nat.le_of_ble_eq_true rfl, by rw [hR]; exact Nat.le_of_ble_eq_true rfl⟩ rfl dX7_facetsOf_24 ?_
    obtain rfl := Option.some.inj h
    subst hQ
    exact g_iret C rfl hr hlk dX7_facetsOf_27 [0, 1] rfl (by decide)
  · replace h := it_f c5 h
    refine g_iconst C 0 dX7_facetsOf_18 (by decide) ?_
    refine g_goto C 27 dX7_facetsOf_19 (by decide) ?_
    obtain rfl := Option.some.inj h
    subst hQ
    exact g_iret C rfl hr hlk dX7_facetsOf_27 [0, 1] rfl (by decide)
def fX7_closure (o0 : OX7) (p1 : Int32) : Option (Int32 × OX7) :=
  (fX7_isSet (s7_thrown o0 0) p1).bind fun r1 =>
  ((fX7_fails (s7_thrown o0 0) r1 1).bind fun r3 =>
  (if r3.1 = 0 then ((fX7_closureOf (s7_thrown o0 (q7_thrown r3.2)) p1).bind fun r6 =>
  (some (r6, (s7_thrown o0 (q7_thrown r3.2)))))
  else (some (0, (s7_thrown o0 (q7_thrown r3.2))))))
theorem myX7_closure : MYv yX7_closure cX7_closure 2 (some .int) 1 := ⟨mw_6_202, mw_6_203, mw_6_204, mw_1_9, ⟨by decide +kernel, by decide +kernel⟩, by decide +kernel⟩
set_option maxRecDepth 100000 in
set_option maxHeartbeats 4000000 in
theorem kX7_closure (l : Launch) (Z : GZ) (a0 a0_buffer a0_now a0_made a0_history a0_saved a0_closed a0_faces a0_rankOf a0_placeOf a0_counted a0_steps a0_onto a0_goes a0_firstImage : Nat) (o0 : OX7) (p1 : Int32) (res : Int32 × OX7) (h : fX7_closure o0 p1 = some res) : MI l Z yX7_closure cX7_closure 2 .int 3 63 [.ref a0, .int p1] [(a0, .inr (7, [.int (q7_thrown o0), .ref a0_buffer, .int (q7_length o0), .int (q7_at o0), .int (q7_from o0), .int (q7_kind o0), .int (q7_number o0), .int (q7_wrong o0), .ref a0_now, .ref a0_made, .ref a0_history, .ref a0_saved, .int (q7_entries o0), .int (q7_isSaved o0), .ref a0_closed, .ref a0_faces, .ref a0_rankOf, .ref a0_placeOf, .int (q7_faceMany o0), .int (q7_isLaid o0), .ref a0_counted, .ref a0_steps, .ref a0_onto, .ref a0_goes, .int (q7_found o0), .int (q7_images o0), .ref a0_firstImage, .int (q7_gathered o0)])), (a0_now, .inl (zI Z, 12, .inl (q7_now o0)))] res.1 [(a0, .inr (7, [.int (q7_thrown res.2), .ref a0_buffer, .int (q7_length o0), .int (q7_at o0), .int (q7_from o0), .int (q7_kind o0), .int (q7_number o0), .int (q7_wrong o0), .ref a0_now, .ref a0_made, .ref a0_history, .ref a0_saved, .int (q7_entries o0), .int (q7_isSaved o0), .ref a0_closed, .ref a0_faces, .ref a0_rankOf, .ref a0_placeOf, .int (q7_faceMany o0), .int (q7_isLaid o0), .ref a0_counted, .ref a0_steps, .ref a0_onto, .ref a0_goes, .int (q7_found o0), .int (q7_images o0), .ref a0_firstImage, .int (q7_gathered o0)])), (a0_now, .inl (zI Z, 12, .inl (q7_now o0)))] := by
  refine MI_of (by decide +kernel) (Nat.le_of_ble_eq_true rfl) (fun {p e s m args below meth c} A R hR Q hQ C hr hlk => ?_)
  unfold fX7_closure at h
  refine g_lv [0, 1] [(0, .ref a0), (1, .int p1)] rfl ?_
  refine g_aload_n C dX7_closure_0 rfl 0 rfl ?_
  refine g_iconst C 0 dX7_closure_1 (by decide) ?_
  refine g_put C 7 52 gin7 tyX7 tyX7_ok nmX7 0 rfl rfl 0 (by decide) mw_5_85 rfl rfl (ty := .int) (by decide +kernel) rfl rfl (Nat.le_of_ble_eq_true rfl) [(a0, .inr (7, [.int 0, .ref a0_buffer, .int (q7_length o0), .int (q7_at o0), .int (q7_from o0), .int (q7_kind o0), .int (q7_number o0), .int (q7_wrong o0), .ref a0_now, .ref a0_made, .ref a0_history, .ref a0_saved, .int (q7_entries o0), .int (q7_isSaved o0), .ref a0_closed, .ref a0_faces, .ref a0_rankOf, .ref a0_placeOf, .int (q7_faceMany o0), .int (q7_isLaid o0), .ref a0_counted, .ref a0_steps, .ref a0_onto, .ref a0_goes, .int (q7_found o0), .int (q7_images o0), .ref a0_firstImage, .int (q7_gathered o0)])), (a0_now, .inl (zI Z, 12, .inl (q7_now o0)))] rfl dX7_closure_2 ?_
  refine g_aload_n C dX7_closure_5 rfl 0 rfl ?_
  refine g_aload_n C dX7_closure_6 rfl 0 rfl ?_
  refine g_iload_n C dX7_closure_7 rfl 1 rfl ?_
  obtain ⟨r1, hr2, h⟩ := bd_of h
  refine g_callVi C (kX7_isSet l Z a0 a0_buffer a0_now a0_made a0_history a0_saved a0_closed a0_faces a0_rankOf a0_placeOf a0_counted a0_steps a0_onto a0_goes a0_firstImage (s7_thrown o0 0) p1 r1 hr2) 0 rfl (ci := 7) rfl rfl myX7_isSet 229 mw_6_92 rfl [0, 1] [] [0, 1] (wr := []) rfl rfl (by decide) (by decide) (by decide) [(a0, .inr (7, [.int 0, .ref a0_buffer, .int (q7_length o0), .int (q7_at o0), .int (q7_from o0), .int (q7_kind o0), .int (q7_number o0), .int (q7_wrong o0), .ref a0_now, .ref a0_made, .ref a0_history, .ref a0_saved, .int (q7_entries o0), .int (q7_isSaved o0), .ref a0_closed, .ref a0_faces, .ref a0_rankOf, .ref a0_placeOf, .int (q7_faceMany o0), .int (q7_isLaid o0), .ref a0_counted, .ref a0_steps, .ref a0_onto, .ref a0_goes, .int (q7_found o0), .int (q7_images o0), .ref a0_firstImage, .int (q7_gathered o0)])), (a0_now, .inl (zI Z, 12, .inl (q7_now o0)))] rfl (by decide) (Nat.le_of_ble_eq_true rfl) (by rw [hR]; exact Nat.le_of_ble_eq_true rfl) (by rw [hR]; exact Nat.le_of_ble_eq_true rfl) ⟨by rw [hR]; exact Nat.le_of_ble_eq_true rfl, by rw [hR]; exact Nat.le_of_ble_eq_true rfl⟩ rfl dX7_closure_8 ?_
  refine g_iconst C 1 dX7_closure_11 (by decide) ?_
  obtain ⟨r3, hr4, h⟩ := bd_of h
  refine g_callVi C (kX7_fails l Z a0 a0_buffer a0_now a0_made a0_history a0_saved a0_closed a0_faces a0_rankOf a0_placeOf a0_counted a0_steps a0_onto a0_goes a0_firstImage (s7_thrown o0 0) r1 1 r3 hr4) 0 rfl (ci := 7) rfl rfl myX7_fails 63 mw_5_181 rfl [0] [1] [1, 0] (wr := [(a0_now, .inl (zI Z, 12, .inl (q7_now o0)))]) rfl rfl (by decide) (by decide) (by decide) [(a0, .inr (7, [.int (q7_thrown r3.2), .ref a0_buffer, .int (q7_length o0), .int (q7_at o0), .int (q7_from o0), .int (q7_kind o0), .int (q7_number o0), .int (q7_wrong o0), .ref a0_now, .ref a0_made, .ref a0_history, .ref a0_saved, .int (q7_entries o0), .int (q7_isSaved o0), .ref a0_closed, .ref a0_faces, .ref a0_rankOf, .ref a0_placeOf, .int (q7_faceMany o0), .int (q7_isLaid o0), .ref a0_counted, .ref a0_steps, .ref a0_onto, .ref a0_goes, .int (q7_found o0), .int (q7_images o0), .ref a0_firstImage, .int (q7_gathered o0)])), (a0_now, .inl (zI Z, 12, .inl (q7_now o0)))] rfl (by decide) (Nat.le_of_ble_eq_true rfl) (by rw [hR]; exact Nat.le_of_ble_eq_true rfl) (by rw [hR]; exact Nat.le_of_ble_eq_true rfl) ⟨by rw [hR]; exact Nat.le_of_ble_eq_true rfl, by rw [hR]; exact Nat.le_of_ble_eq_true rfl⟩ rfl dX7_closure_12 ?_
  refine g_if_eq C 22 dX7_closure_15 (by decide) (fun c5 => ?_) (fun c5 => ?_)
  · replace h := it_t c5 h
    refine g_aload_n C dX7_closure_22 rfl 0 rfl ?_
    refine g_iload_n C dX7_closure_23 rfl 1 rfl ?_
    obtain ⟨r6, hr7, h⟩ := bd_of h
    refine g_callVi C (kX7_closureOf l Z a0 a0_buffer a0_now a0_made a0_history a0_saved a0_closed a0_faces a0_rankOf a0_placeOf a0_counted a0_steps a0_onto a0_goes a0_firstImage (s7_thrown o0 (q7_thrown r3.2)) p1 r6 hr7) 0 rfl (ci := 7) rfl rfl myX7_closureOf 208 mw_6_124 rfl [0, 1] [] [0, 1] (wr := []) rfl rfl (by decide) (by decide) (by decide) [(a0, .inr (7, [.int (q7_thrown r3.2), .ref a0_buffer, .int (q7_length o0), .int (q7_at o0), .int (q7_from o0), .int (q7_kind o0), .int (q7_number o0), .int (q7_wrong o0), .ref a0_now, .ref a0_made, .ref a0_history, .ref a0_saved, .int (q7_entries o0), .int (q7_isSaved o0), .ref a0_closed, .ref a0_faces, .ref a0_rankOf, .ref a0_placeOf, .int (q7_faceMany o0), .int (q7_isLaid o0), .ref a0_counted, .ref a0_steps, .ref a0_onto, .ref a0_goes, .int (q7_found o0), .int (q7_images o0), .ref a0_firstImage, .int (q7_gathered o0)])), (a0_now, .inl (zI Z, 12, .inl (q7_now o0)))] rfl (by decide) (Nat.le_of_ble_eq_true rfl) (by rw [hR]; exact Nat.le_of_ble_eq_true rfl) (by rw [hR]; exact Nat.le_of_ble_eq_true rfl) ⟨by rw [hR]; exact Nat.le_of_ble_eq_true rfl, by rw [hR]; exact Nat.le_of_ble_eq_true rfl⟩ rfl dX7_closure_24 ?_
    obtain rfl := Option.some.inj h
    subst hQ
    exact g_iret C rfl hr hlk dX7_closure_27 [0, 1] rfl (by decide)
  · replace h := it_f c5 h
    refine g_iconst C 0 dX7_closure_18 (by decide) ?_
    refine g_goto C 27 dX7_closure_19 (by decide) ?_
    obtain rfl := Option.some.inj h
    subst hQ
    exact g_iret C rfl hr hlk dX7_closure_27 [0, 1] rfl (by decide)
def fX7_faceCount (o0 : OX7) : Option (Int32 × OX7) :=
  (fX7_faceManyNow (s7_thrown o0 0)).bind fun r1 =>
  (some (r1.1, (s7_isLaid (s7_faceMany (s7_placeOf (s7_rankOf (s7_faces (s7_closed (s7_thrown o0 0) (q7_closed r1.2)) (q7_faces r1.2)) (q7_rankOf r1.2)) (q7_placeOf r1.2)) (q7_faceMany r1.2)) (q7_isLaid r1.2))))
theorem myX7_faceCount : MYv yX7_faceCount cX7_faceCount 1 (some .int) 0 := ⟨mw_6_206, mw_6_207, mw_6_208, mw_1_9, ⟨by decide +kernel, by decide +kernel⟩, by decide +kernel⟩
set_option maxRecDepth 100000 in
set_option maxHeartbeats 4000000 in
theorem kX7_faceCount (l : Launch) (Z : GZ) (a0 a0_buffer a0_now a0_made a0_history a0_saved a0_closed a0_faces a0_rankOf a0_placeOf a0_counted a0_steps a0_onto a0_goes a0_firstImage : Nat) (o0 : OX7) (res : Int32 × OX7) (h : fX7_faceCount o0 = some res) : MI l Z yX7_faceCount cX7_faceCount 1 .int 5 109 [.ref a0] [(a0, .inr (7, [.int (q7_thrown o0), .ref a0_buffer, .int (q7_length o0), .int (q7_at o0), .int (q7_from o0), .int (q7_kind o0), .int (q7_number o0), .int (q7_wrong o0), .ref a0_now, .ref a0_made, .ref a0_history, .ref a0_saved, .int (q7_entries o0), .int (q7_isSaved o0), .ref a0_closed, .ref a0_faces, .ref a0_rankOf, .ref a0_placeOf, .int (q7_faceMany o0), .int (q7_isLaid o0), .ref a0_counted, .ref a0_steps, .ref a0_onto, .ref a0_goes, .int (q7_found o0), .int (q7_images o0), .ref a0_firstImage, .int (q7_gathered o0)])), (a0_now, .inl (zI Z, 12, .inl (q7_now o0))), (a0_closed, .inl (zI Z, 256, .inl (q7_closed o0))), (a0_faces, .inl (zI Z, 256, .inl (q7_faces o0))), (a0_rankOf, .inl (zI Z, 256, .inl (q7_rankOf o0))), (a0_placeOf, .inl (zI Z, 256, .inl (q7_placeOf o0)))] res.1 [(a0, .inr (7, [.int (q7_thrown res.2), .ref a0_buffer, .int (q7_length o0), .int (q7_at o0), .int (q7_from o0), .int (q7_kind o0), .int (q7_number o0), .int (q7_wrong o0), .ref a0_now, .ref a0_made, .ref a0_history, .ref a0_saved, .int (q7_entries o0), .int (q7_isSaved o0), .ref a0_closed, .ref a0_faces, .ref a0_rankOf, .ref a0_placeOf, .int (q7_faceMany res.2), .int (q7_isLaid res.2), .ref a0_counted, .ref a0_steps, .ref a0_onto, .ref a0_goes, .int (q7_found o0), .int (q7_images o0), .ref a0_firstImage, .int (q7_gathered o0)])), (a0_now, .inl (zI Z, 12, .inl (q7_now o0))), (a0_closed, .inl (zI Z, 256, .inl (q7_closed res.2))), (a0_faces, .inl (zI Z, 256, .inl (q7_faces res.2))), (a0_rankOf, .inl (zI Z, 256, .inl (q7_rankOf res.2))), (a0_placeOf, .inl (zI Z, 256, .inl (q7_placeOf res.2)))] := by
  refine MI_of (by decide +kernel) (Nat.le_of_ble_eq_true rfl) (fun {p e s m args below meth c} A R hR Q hQ C hr hlk => ?_)
  unfold fX7_faceCount at h
  refine g_lv [0] [(0, .ref a0)] rfl ?_
  refine g_aload_n C dX7_faceCount_0 rfl 0 rfl ?_
  refine g_iconst C 0 dX7_faceCount_1 (by decide) ?_
  refine g_put C 7 52 gin7 tyX7 tyX7_ok nmX7 0 rfl rfl 0 (by decide) mw_5_85 rfl rfl (ty := .int) (by decide +kernel) rfl rfl (Nat.le_of_ble_eq_true rfl) [(a0, .inr (7, [.int 0, .ref a0_buffer, .int (q7_length o0), .int (q7_at o0), .int (q7_from o0), .int (q7_kind o0), .int (q7_number o0), .int (q7_wrong o0), .ref a0_now, .ref a0_made, .ref a0_history, .ref a0_saved, .int (q7_entries o0), .int (q7_isSaved o0), .ref a0_closed, .ref a0_faces, .ref a0_rankOf, .ref a0_placeOf, .int (q7_faceMany o0), .int (q7_isLaid o0), .ref a0_counted, .ref a0_steps, .ref a0_onto, .ref a0_goes, .int (q7_found o0), .int (q7_images o0), .ref a0_firstImage, .int (q7_gathered o0)])), (a0_now, .inl (zI Z, 12, .inl (q7_now o0))), (a0_closed, .inl (zI Z, 256, .inl (q7_closed o0))), (a0_faces, .inl (zI Z, 256, .inl (q7_faces o0))), (a0_rankOf, .inl (zI Z, 256, .inl (q7_rankOf o0))), (a0_placeOf, .inl (zI Z, 256, .inl (q7_placeOf o0)))] rfl dX7_faceCount_2 ?_
  refine g_aload_n C dX7_faceCount_5 rfl 0 rfl ?_
  obtain ⟨r1, hr2, h⟩ := bd_of h
  refine g_callVi C (kX7_faceManyNow l Z a0 a0_buffer a0_now a0_made a0_history a0_saved a0_closed a0_faces a0_rankOf a0_placeOf a0_counted a0_steps a0_onto a0_goes a0_firstImage (s7_thrown o0 0) r1 hr2) 0 rfl (ci := 7) rfl rfl myX7_faceManyNow 238 mw_6_116 rfl [0, 1, 2, 3, 4, 5] [] [0, 1, 2, 3, 4, 5] (wr := []) rfl rfl (by decide) (by decide) (by decide) [(a0, .inr (7, [.int 0, .ref a0_buffer, .int (q7_length o0), .int (q7_at o0), .int (q7_from o0), .int (q7_kind o0), .int (q7_number o0), .int (q7_wrong o0), .ref a0_now, .ref a0_made, .ref a0_history, .ref a0_saved, .int (q7_entries o0), .int (q7_isSaved o0), .ref a0_closed, .ref a0_faces, .ref a0_rankOf, .ref a0_placeOf, .int (q7_faceMany r1.2), .int (q7_isLaid r1.2), .ref a0_counted, .ref a0_steps, .ref a0_onto, .ref a0_goes, .int (q7_found o0), .int (q7_images o0), .ref a0_firstImage, .int (q7_gathered o0)])), (a0_now, .inl (zI Z, 12, .inl (q7_now o0))), (a0_closed, .inl (zI Z, 256, .inl (q7_closed r1.2))), (a0_faces, .inl (zI Z, 256, .inl (q7_faces r1.2))), (a0_rankOf, .inl (zI Z, 256, .inl (q7_rankOf r1.2))), (a0_placeOf, .inl (zI Z, 256, .inl (q7_placeOf r1.2)))] rfl (by decide) (Nat.le_of_ble_eq_true rfl) (by rw [hR]; exact Nat.le_of_ble_eq_true rfl) (by rw [hR]; exact Nat.le_of_ble_eq_true rfl) ⟨by rw [hR]; exact Nat.le_of_ble_eq_true rfl, by rw [hR]; exact Nat.le_of_ble_eq_true rfl⟩ rfl dX7_faceCount_6 ?_
  obtain rfl := Option.some.inj h
  subst hQ
  exact g_iret C rfl hr hlk dX7_faceCount_9 [0, 1, 2, 3, 4, 5] rfl (by decide)
def fX7_face (o0 : OX7) (p1 : Int32) : Option (Int32 × OX7) :=
  (fX7_isFace (s7_thrown o0 0) p1).bind fun r1 =>
  ((fX7_fails (s7_isLaid (s7_faceMany (s7_placeOf (s7_rankOf (s7_faces (s7_closed (s7_thrown o0 0) (q7_closed r1.2)) (q7_faces r1.2)) (q7_rankOf r1.2)) (q7_placeOf r1.2)) (q7_faceMany r1.2)) (q7_isLaid r1.2)) r1.1 1).bind fun r3 =>
  (if r3.1 = 0 then (ck (okI p1 256) (some (((q7_faces r1.2) (ix p1)), (s7_isLaid (s7_faceMany (s7_placeOf (s7_rankOf (s7_faces (s7_closed (s7_thrown o0 (q7_thrown r3.2)) (q7_closed r1.2)) (q7_faces r1.2)) (q7_rankOf r1.2)) (q7_placeOf r1.2)) (q7_faceMany r1.2)) (q7_isLaid r1.2)))))
  else (some (0, (s7_isLaid (s7_faceMany (s7_placeOf (s7_rankOf (s7_faces (s7_closed (s7_thrown o0 (q7_thrown r3.2)) (q7_closed r1.2)) (q7_faces r1.2)) (q7_rankOf r1.2)) (q7_placeOf r1.2)) (q7_faceMany r1.2)) (q7_isLaid r1.2))))))
theorem myX7_face : MYv yX7_face cX7_face 2 (some .int) 1 := ⟨mw_6_210, mw_6_211, mw_6_212, mw_1_9, ⟨by decide +kernel, by decide +kernel⟩, by decide +kernel⟩
set_option maxRecDepth 100000 in
set_option maxHeartbeats 4000000 in
theorem kX7_face (l : Launch) (Z : GZ) (a0 a0_buffer a0_now a0_made a0_history a0_saved a0_closed a0_faces a0_rankOf a0_placeOf a0_counted a0_steps a0_onto a0_goes a0_firstImage : Nat) (o0 : OX7) (p1 : Int32) (res : Int32 × OX7) (h : fX7_face o0 p1 = some res) : MI l Z yX7_face cX7_face 2 .int 5 110 [.ref a0, .int p1] [(a0, .inr (7, [.int (q7_thrown o0), .ref a0_buffer, .int (q7_length o0), .int (q7_at o0), .int (q7_from o0), .int (q7_kind o0), .int (q7_number o0), .int (q7_wrong o0), .ref a0_now, .ref a0_made, .ref a0_history, .ref a0_saved, .int (q7_entries o0), .int (q7_isSaved o0), .ref a0_closed, .ref a0_faces, .ref a0_rankOf, .ref a0_placeOf, .int (q7_faceMany o0), .int (q7_isLaid o0), .ref a0_counted, .ref a0_steps, .ref a0_onto, .ref a0_goes, .int (q7_found o0), .int (q7_images o0), .ref a0_firstImage, .int (q7_gathered o0)])), (a0_now, .inl (zI Z, 12, .inl (q7_now o0))), (a0_closed, .inl (zI Z, 256, .inl (q7_closed o0))), (a0_faces, .inl (zI Z, 256, .inl (q7_faces o0))), (a0_rankOf, .inl (zI Z, 256, .inl (q7_rankOf o0))), (a0_placeOf, .inl (zI Z, 256, .inl (q7_placeOf o0)))] res.1 [(a0, .inr (7, [.int (q7_thrown res.2), .ref a0_buffer, .int (q7_length o0), .int (q7_at o0), .int (q7_from o0), .int (q7_kind o0), .int (q7_number o0), .int (q7_wrong o0), .ref a0_now, .ref a0_made, .ref a0_history, .ref a0_saved, .int (q7_entries o0), .int (q7_isSaved o0), .ref a0_closed, .ref a0_faces, .ref a0_rankOf, .ref a0_placeOf, .int (q7_faceMany res.2), .int (q7_isLaid res.2), .ref a0_counted, .ref a0_steps, .ref a0_onto, .ref a0_goes, .int (q7_found o0), .int (q7_images o0), .ref a0_firstImage, .int (q7_gathered o0)])), (a0_now, .inl (zI Z, 12, .inl (q7_now o0))), (a0_closed, .inl (zI Z, 256, .inl (q7_closed res.2))), (a0_faces, .inl (zI Z, 256, .inl (q7_faces res.2))), (a0_rankOf, .inl (zI Z, 256, .inl (q7_rankOf res.2))), (a0_placeOf, .inl (zI Z, 256, .inl (q7_placeOf res.2)))] := by
  refine MI_of (by decide +kernel) (Nat.le_of_ble_eq_true rfl) (fun {p e s m args below meth c} A R hR Q hQ C hr hlk => ?_)
  unfold fX7_face at h
  refine g_lv [0, 1] [(0, .ref a0), (1, .int p1)] rfl ?_
  refine g_aload_n C dX7_face_0 rfl 0 rfl ?_
  refine g_iconst C 0 dX7_face_1 (by decide) ?_
  refine g_put C 7 52 gin7 tyX7 tyX7_ok nmX7 0 rfl rfl 0 (by decide) mw_5_85 rfl rfl (ty := .int) (by decide +kernel) rfl rfl (Nat.le_of_ble_eq_true rfl) [(a0, .inr (7, [.int 0, .ref a0_buffer, .int (q7_length o0), .int (q7_at o0), .int (q7_from o0), .int (q7_kind o0), .int (q7_number o0), .int (q7_wrong o0), .ref a0_now, .ref a0_made, .ref a0_history, .ref a0_saved, .int (q7_entries o0), .int (q7_isSaved o0), .ref a0_closed, .ref a0_faces, .ref a0_rankOf, .ref a0_placeOf, .int (q7_faceMany o0), .int (q7_isLaid o0), .ref a0_counted, .ref a0_steps, .ref a0_onto, .ref a0_goes, .int (q7_found o0), .int (q7_images o0), .ref a0_firstImage, .int (q7_gathered o0)])), (a0_now, .inl (zI Z, 12, .inl (q7_now o0))), (a0_closed, .inl (zI Z, 256, .inl (q7_closed o0))), (a0_faces, .inl (zI Z, 256, .inl (q7_faces o0))), (a0_rankOf, .inl (zI Z, 256, .inl (q7_rankOf o0))), (a0_placeOf, .inl (zI Z, 256, .inl (q7_placeOf o0)))] rfl dX7_face_2 ?_
  refine g_aload_n C dX7_face_5 rfl 0 rfl ?_
  refine g_aload_n C dX7_face_6 rfl 0 rfl ?_
  refine g_iload_n C dX7_face_7 rfl 1 rfl ?_
  obtain ⟨r1, hr2, h⟩ := bd_of h
  refine g_callVi C (kX7_isFace l Z a0 a0_buffer a0_now a0_made a0_history a0_saved a0_closed a0_faces a0_rankOf a0_placeOf a0_counted a0_steps a0_onto a0_goes a0_firstImage (s7_thrown o0 0) p1 r1 hr2) 0 rfl (ci := 7) rfl rfl myX7_isFace 257 mw_6_174 rfl [0, 1, 2, 3, 4, 5] [] [0, 1, 2, 3, 4, 5] (wr := []) rfl rfl (by decide) (by decide) (by decide) [(a0, .inr (7, [.int 0, .ref a0_buffer, .int (q7_length o0), .int (q7_at o0), .int (q7_from o0), .int (q7_kind o0), .int (q7_number o0), .int (q7_wrong o0), .ref a0_now, .ref a0_made, .ref a0_history, .ref a0_saved, .int (q7_entries o0), .int (q7_isSaved o0), .ref a0_closed, .ref a0_faces, .ref a0_rankOf, .ref a0_placeOf, .int (q7_faceMany r1.2), .int (q7_isLaid r1.2), .ref a0_counted, .ref a0_steps, .ref a0_onto, .ref a0_goes, .int (q7_found o0), .int (q7_images o0), .ref a0_firstImage, .int (q7_gathered o0)])), (a0_now, .inl (zI Z, 12, .inl (q7_now o0))), (a0_closed, .inl (zI Z, 256, .inl (q7_closed r1.2))), (a0_faces, .inl (zI Z, 256, .inl (q7_faces r1.2))), (a0_rankOf, .inl (zI Z, 256, .inl (q7_rankOf r1.2))), (a0_placeOf, .inl (zI Z, 256, .inl (q7_placeOf r1.2)))] rfl (by decide) (Nat.le_of_ble_eq_true rfl) (by rw [hR]; exact Nat.le_of_ble_eq_true rfl) (by rw [hR]; exact Nat.le_of_ble_eq_true rfl) ⟨by rw [hR]; exact Nat.le_of_ble_eq_true rfl, by rw [hR]; exact Nat.le_of_ble_eq_true rfl⟩ rfl dX7_face_8 ?_
  refine g_iconst C 1 dX7_face_11 (by decide) ?_
  obtain ⟨r3, hr4, h⟩ := bd_of h
  refine g_callVi C (kX7_fails l Z a0 a0_buffer a0_now a0_made a0_history a0_saved a0_closed a0_faces a0_rankOf a0_placeOf a0_counted a0_steps a0_onto a0_goes a0_firstImage (s7_isLaid (s7_faceMany (s7_placeOf (s7_rankOf (s7_faces (s7_closed (s7_thrown o0 0) (q7_closed r1.2)) (q7_faces r1.2)) (q7_rankOf r1.2)) (q7_placeOf r1.2)) (q7_faceMany r1.2)) (q7_isLaid r1.2)) r1.1 1 r3 hr4) 0 rfl (ci := 7) rfl rfl myX7_fails 63 mw_5_181 rfl [0] [1, 2, 3, 4, 5] [5, 0, 1, 2, 3, 4] (wr := [(a0_now, .inl (zI Z, 12, .inl (q7_now o0))), (a0_closed, .inl (zI Z, 256, .inl (q7_closed r1.2))), (a0_faces, .inl (zI Z, 256, .inl (q7_faces r1.2))), (a0_rankOf, .inl (zI Z, 256, .inl (q7_rankOf r1.2))), (a0_placeOf, .inl (zI Z, 256, .inl (q7_placeOf r1.2)))]) rfl rfl (by decide) (by decide) (by decide) [(a0, .inr (7, [.int (q7_thrown r3.2), .ref a0_buffer, .int (q7_length o0), .int (q7_at o0), .int (q7_from o0), .int (q7_kind o0), .int (q7_number o0), .int (q7_wrong o0), .ref a0_now, .ref a0_made, .ref a0_history, .ref a0_saved, .int (q7_entries o0), .int (q7_isSaved o0), .ref a0_closed, .ref a0_faces, .ref a0_rankOf, .ref a0_placeOf, .int (q7_faceMany r1.2), .int (q7_isLaid r1.2), .ref a0_counted, .ref a0_steps, .ref a0_onto, .ref a0_goes, .int (q7_found o0), .int (q7_images o0), .ref a0_firstImage, .int (q7_gathered o0)])), (a0_now, .inl (zI Z, 12, .inl (q7_now o0))), (a0_closed, .inl (zI Z, 256, .inl (q7_closed r1.2))), (a0_faces, .inl (zI Z, 256, .inl (q7_faces r1.2))), (a0_rankOf, .inl (zI Z, 256, .inl (q7_rankOf r1.2))), (a0_placeOf, .inl (zI Z, 256, .inl (q7_placeOf r1.2)))] rfl (by decide) (Nat.le_of_ble_eq_true rfl) (by rw [hR]; exact Nat.le_of_ble_eq_true rfl) (by rw [hR]; exact Nat.le_of_ble_eq_true rfl) ⟨by rw [hR]; exact Nat.le_of_ble_eq_true rfl, by rw [hR]; exact Nat.le_of_ble_eq_true rfl⟩ rfl dX7_face_12 ?_
  refine g_if_eq C 22 dX7_face_15 (by decide) (fun c5 => ?_) (fun c5 => ?_)
  · replace h := it_t c5 h
    refine g_aload_n C dX7_face_22 rfl 0 rfl ?_
    refine g_get C 7 28 gin7 0 rfl rfl 15 (by decide) mw_5_100 rfl rfl dX7_face_23 ?_
    refine g_iload_n C dX7_face_26 rfl 1 rfl ?_
    obtain ⟨hi6, h⟩ := ck_of h
    refine g_iald C 3 rfl hi6 dX7_face_27 ?_
    obtain rfl := Option.some.inj h
    subst hQ
    exact g_iret C rfl hr hlk dX7_face_28 [0, 1, 2, 3, 4, 5] rfl (by decide)
  · replace h := it_f c5 h
    refine g_iconst C 0 dX7_face_18 (by decide) ?_
    refine g_goto C 28 dX7_face_19 (by decide) ?_
    obtain rfl := Option.some.inj h
    subst hQ
    exact g_iret C rfl hr hlk dX7_face_28 [0, 1, 2, 3, 4, 5] rfl (by decide)
def fX7_indexOf (o0 : OX7) (p1 : Int32) : Option (Int32 × OX7) :=
  (fX7_lay (s7_thrown o0 0)).bind fun r1 =>
  ((fX7_isSet (s7_isLaid (s7_faceMany (s7_placeOf (s7_rankOf (s7_faces (s7_closed (s7_thrown o0 0) (q7_closed r1)) (q7_faces r1)) (q7_rankOf r1)) (q7_placeOf r1)) (q7_faceMany r1)) (q7_isLaid r1)) p1).bind fun r3 =>
  (if r3 = 0 then (some ((-1), (s7_isLaid (s7_faceMany (s7_placeOf (s7_rankOf (s7_faces (s7_closed (s7_thrown o0 0) (q7_closed r1)) (q7_faces r1)) (q7_rankOf r1)) (q7_placeOf r1)) (q7_faceMany r1)) (q7_isLaid r1))))
  else (ck (okI p1 256) (some (((q7_placeOf r1) (ix p1)), (s7_isLaid (s7_faceMany (s7_placeOf (s7_rankOf (s7_faces (s7_closed (s7_thrown o0 0) (q7_closed r1)) (q7_faces r1)) (q7_rankOf r1)) (q7_placeOf r1)) (q7_faceMany r1)) (q7_isLaid r1)))))))
theorem myX7_indexOf : MYv yX7_indexOf cX7_indexOf 2 (some .int) 1 := ⟨mw_6_214, mw_6_215, mw_6_216, mw_1_9, ⟨by decide +kernel, by decide +kernel⟩, by decide +kernel⟩
set_option maxRecDepth 100000 in
set_option maxHeartbeats 4000000 in
theorem kX7_indexOf (l : Launch) (Z : GZ) (a0 a0_buffer a0_now a0_made a0_history a0_saved a0_closed a0_faces a0_rankOf a0_placeOf a0_counted a0_steps a0_onto a0_goes a0_firstImage : Nat) (o0 : OX7) (p1 : Int32) (res : Int32 × OX7) (h : fX7_indexOf o0 p1 = some res) : MI l Z yX7_indexOf cX7_indexOf 2 .int 4 89 [.ref a0, .int p1] [(a0, .inr (7, [.int (q7_thrown o0), .ref a0_buffer, .int (q7_length o0), .int (q7_at o0), .int (q7_from o0), .int (q7_kind o0), .int (q7_number o0), .int (q7_wrong o0), .ref a0_now, .ref a0_made, .ref a0_history, .ref a0_saved, .int (q7_entries o0), .int (q7_isSaved o0), .ref a0_closed, .ref a0_faces, .ref a0_rankOf, .ref a0_placeOf, .int (q7_faceMany o0), .int (q7_isLaid o0), .ref a0_counted, .ref a0_steps, .ref a0_onto, .ref a0_goes, .int (q7_found o0), .int (q7_images o0), .ref a0_firstImage, .int (q7_gathered o0)])), (a0_now, .inl (zI Z, 12, .inl (q7_now o0))), (a0_closed, .inl (zI Z, 256, .inl (q7_closed o0))), (a0_faces, .inl (zI Z, 256, .inl (q7_faces o0))), (a0_rankOf, .inl (zI Z, 256, .inl (q7_rankOf o0))), (a0_placeOf, .inl (zI Z, 256, .inl (q7_placeOf o0)))] res.1 [(a0, .inr (7, [.int (q7_thrown res.2), .ref a0_buffer, .int (q7_length o0), .int (q7_at o0), .int (q7_from o0), .int (q7_kind o0), .int (q7_number o0), .int (q7_wrong o0), .ref a0_now, .ref a0_made, .ref a0_history, .ref a0_saved, .int (q7_entries o0), .int (q7_isSaved o0), .ref a0_closed, .ref a0_faces, .ref a0_rankOf, .ref a0_placeOf, .int (q7_faceMany res.2), .int (q7_isLaid res.2), .ref a0_counted, .ref a0_steps, .ref a0_onto, .ref a0_goes, .int (q7_found o0), .int (q7_images o0), .ref a0_firstImage, .int (q7_gathered o0)])), (a0_now, .inl (zI Z, 12, .inl (q7_now o0))), (a0_closed, .inl (zI Z, 256, .inl (q7_closed res.2))), (a0_faces, .inl (zI Z, 256, .inl (q7_faces res.2))), (a0_rankOf, .inl (zI Z, 256, .inl (q7_rankOf res.2))), (a0_placeOf, .inl (zI Z, 256, .inl (q7_placeOf res.2)))] := by
  refine MI_of (by decide +kernel) (Nat.le_of_ble_eq_true rfl) (fun {p e s m args below meth c} A R hR Q hQ C hr hlk => ?_)
  unfold fX7_indexOf at h
  refine g_lv [0, 1] [(0, .ref a0), (1, .int p1)] rfl ?_
  refine g_aload_n C dX7_indexOf_0 rfl 0 rfl ?_
  refine g_iconst C 0 dX7_indexOf_1 (by decide) ?_
  refine g_put C 7 52 gin7 tyX7 tyX7_ok nmX7 0 rfl rfl 0 (by decide) mw_5_85 rfl rfl (ty := .int) (by decide +kernel) rfl rfl (Nat.le_of_ble_eq_true rfl) [(a0, .inr (7, [.int 0, .ref a0_buffer, .int (q7_length o0), .int (q7_at o0), .int (q7_from o0), .int (q7_kind o0), .int (q7_number o0), .int (q7_wrong o0), .ref a0_now, .ref a0_made, .ref a0_history, .ref a0_saved, .int (q7_entries o0), .int (q7_isSaved o0), .ref a0_closed, .ref a0_faces, .ref a0_rankOf, .ref a0_placeOf, .int (q7_faceMany o0), .int (q7_isLaid o0), .ref a0_counted, .ref a0_steps, .ref a0_onto, .ref a0_goes, .int (q7_found o0), .int (q7_images o0), .ref a0_firstImage, .int (q7_gathered o0)])), (a0_now, .inl (zI Z, 12, .inl (q7_now o0))), (a0_closed, .inl (zI Z, 256, .inl (q7_closed o0))), (a0_faces, .inl (zI Z, 256, .inl (q7_faces o0))), (a0_rankOf, .inl (zI Z, 256, .inl (q7_rankOf o0))), (a0_placeOf, .inl (zI Z, 256, .inl (q7_placeOf o0)))] rfl dX7_indexOf_2 ?_
  refine g_aload_n C dX7_indexOf_5 rfl 0 rfl ?_
  obtain ⟨r1, hr2, h⟩ := bd_of h
  refine g_callVv C (kX7_lay l Z a0 a0_buffer a0_now a0_made a0_history a0_saved a0_closed a0_faces a0_rankOf a0_placeOf a0_counted a0_steps a0_onto a0_goes a0_firstImage (s7_thrown o0 0) r1 hr2) 0 rfl (ci := 7) rfl rfl myX7_lay 217 mw_6_120 rfl [0, 1, 2, 3, 4, 5] [] [0, 1, 2, 3, 4, 5] (wr := []) rfl rfl (by decide) (by decide) (by decide) [(a0, .inr (7, [.int 0, .ref a0_buffer, .int (q7_length o0), .int (q7_at o0), .int (q7_from o0), .int (q7_kind o0), .int (q7_number o0), .int (q7_wrong o0), .ref a0_now, .ref a0_made, .ref a0_history, .ref a0_saved, .int (q7_entries o0), .int (q7_isSaved o0), .ref a0_closed, .ref a0_faces, .ref a0_rankOf, .ref a0_placeOf, .int (q7_faceMany r1), .int (q7_isLaid r1), .ref a0_counted, .ref a0_steps, .ref a0_onto, .ref a0_goes, .int (q7_found o0), .int (q7_images o0), .ref a0_firstImage, .int (q7_gathered o0)])), (a0_now, .inl (zI Z, 12, .inl (q7_now o0))), (a0_closed, .inl (zI Z, 256, .inl (q7_closed r1))), (a0_faces, .inl (zI Z, 256, .inl (q7_faces r1))), (a0_rankOf, .inl (zI Z, 256, .inl (q7_rankOf r1))), (a0_placeOf, .inl (zI Z, 256, .inl (q7_placeOf r1)))] rfl (by decide) (Nat.le_of_ble_eq_true rfl) (by rw [hR]; exact Nat.le_of_ble_eq_true rfl) (by rw [hR]; exact Nat.le_of_ble_eq_true rfl) ⟨by rw [hR]; exact Nat.le_of_ble_eq_true rfl, by rw [hR]; exact Nat.le_of_ble_eq_true rfl⟩ rfl dX7_indexOf_6 ?_
  refine g_aload_n C dX7_indexOf_9 rfl 0 rfl ?_
  refine g_iload_n C dX7_indexOf_10 rfl 1 rfl ?_
  obtain ⟨r3, hr4, h⟩ := bd_of h
  refine g_callVi C (kX7_isSet l Z a0 a0_buffer a0_now a0_made a0_history a0_saved a0_closed a0_faces a0_rankOf a0_placeOf a0_counted a0_steps a0_onto a0_goes a0_firstImage (s7_isLaid (s7_faceMany (s7_placeOf (s7_rankOf (s7_faces (s7_closed (s7_thrown o0 0) (q7_closed r1)) (q7_faces r1)) (q7_rankOf r1)) (q7_placeOf r1)) (q7_faceMany r1)) (q7_isLaid r1)) p1 r3 hr4) 0 rfl (ci := 7) rfl rfl myX7_isSet 229 mw_6_92 rfl [0, 1] [2, 3, 4, 5] [4, 5, 0, 1, 2, 3] (wr := [(a0_closed, .inl (zI Z, 256, .inl (q7_closed r1))), (a0_faces, .inl (zI Z, 256, .inl (q7_faces r1))), (a0_rankOf, .inl (zI Z, 256, .inl (q7_rankOf r1))), (a0_placeOf, .inl (zI Z, 256, .inl (q7_placeOf r1)))]) rfl rfl (by decide) (by decide) (by decide) [(a0, .inr (7, [.int 0, .ref a0_buffer, .int (q7_length o0), .int (q7_at o0), .int (q7_from o0), .int (q7_kind o0), .int (q7_number o0), .int (q7_wrong o0), .ref a0_now, .ref a0_made, .ref a0_history, .ref a0_saved, .int (q7_entries o0), .int (q7_isSaved o0), .ref a0_closed, .ref a0_faces, .ref a0_rankOf, .ref a0_placeOf, .int (q7_faceMany r1), .int (q7_isLaid r1), .ref a0_counted, .ref a0_steps, .ref a0_onto, .ref a0_goes, .int (q7_found o0), .int (q7_images o0), .ref a0_firstImage, .int (q7_gathered o0)])), (a0_now, .inl (zI Z, 12, .inl (q7_now o0))), (a0_closed, .inl (zI Z, 256, .inl (q7_closed r1))), (a0_faces, .inl (zI Z, 256, .inl (q7_faces r1))), (a0_rankOf, .inl (zI Z, 256, .inl (q7_rankOf r1))), (a0_placeOf, .inl (zI Z, 256, .inl (q7_placeOf r1)))] rfl (by decide) (Nat.le_of_ble_eq_true rfl) (by rw [hR]; exact Nat.le_of_ble_eq_true rfl) (by rw [hR]; exact Nat.le_of_ble_eq_true rfl) ⟨by rw [hR]; exact Nat.le_of_ble_eq_true rfl, by rw [hR]; exact Nat.le_of_ble_eq_true rfl⟩ rfl dX7_indexOf_11 ?_
  refine g_if_eq C 26 dX7_indexOf_14 (by decide) (fun c5 => ?_) (fun c5 => ?_)
  · replace h := it_t c5 h
    refine g_iconst C (-1) dX7_indexOf_26 (by decide) ?_
    obtain rfl := Option.some.inj h
    subst hQ
    exact g_iret C rfl hr hlk dX7_indexOf_27 [0, 1, 2, 3, 4, 5] rfl (by decide)
  · replace h := it_f c5 h
    refine g_aload_n C dX7_indexOf_17 rfl 0 rfl ?_
    refine g_get C 7 34 gin7 0 rfl rfl 17 (by decide) mw_5_102 rfl rfl dX7_indexOf_18 ?_
    refine g_iload_n C dX7_indexOf_21 rfl 1 rfl ?_
    obtain ⟨hi6, h⟩ := ck_of h
    refine g_iald C 5 rfl hi6 dX7_indexOf_22 ?_
    refine g_goto C 27 dX7_indexOf_23 (by decide) ?_
    obtain rfl := Option.some.inj h
    subst hQ
    exact g_iret C rfl hr hlk dX7_indexOf_27 [0, 1, 2, 3, 4, 5] rfl (by decide)
def fX7_rank (o0 : OX7) (p1 : Int32) : Option (Int32 × OX7) :=
  (fX7_isFace (s7_thrown o0 0) p1).bind fun r1 =>
  ((fX7_fails (s7_isLaid (s7_faceMany (s7_placeOf (s7_rankOf (s7_faces (s7_closed (s7_thrown o0 0) (q7_closed r1.2)) (q7_faces r1.2)) (q7_rankOf r1.2)) (q7_placeOf r1.2)) (q7_faceMany r1.2)) (q7_isLaid r1.2)) r1.1 1).bind fun r3 =>
  (if r3.1 = 0 then ((fX7_rankAt (s7_isLaid (s7_faceMany (s7_placeOf (s7_rankOf (s7_faces (s7_closed (s7_thrown o0 (q7_thrown r3.2)) (q7_closed r1.2)) (q7_faces r1.2)) (q7_rankOf r1.2)) (q7_placeOf r1.2)) (q7_faceMany r1.2)) (q7_isLaid r1.2)) p1).bind fun r6 =>
  (some (r6, (s7_isLaid (s7_faceMany (s7_placeOf (s7_rankOf (s7_faces (s7_closed (s7_thrown o0 (q7_thrown r3.2)) (q7_closed r1.2)) (q7_faces r1.2)) (q7_rankOf r1.2)) (q7_placeOf r1.2)) (q7_faceMany r1.2)) (q7_isLaid r1.2)))))
  else (some (0, (s7_isLaid (s7_faceMany (s7_placeOf (s7_rankOf (s7_faces (s7_closed (s7_thrown o0 (q7_thrown r3.2)) (q7_closed r1.2)) (q7_faces r1.2)) (q7_rankOf r1.2)) (q7_placeOf r1.2)) (q7_faceMany r1.2)) (q7_isLaid r1.2))))))
theorem myX7_rank : MYv yX7_rank cX7_rank 2 (some .int) 1 := ⟨mw_6_218, mw_6_219, mw_6_220, mw_1_9, ⟨by decide +kernel, by decide +kernel⟩, by decide +kernel⟩
set_option maxRecDepth 100000 in
set_option maxHeartbeats 4000000 in
theorem kX7_rank (l : Launch) (Z : GZ) (a0 a0_buffer a0_now a0_made a0_history a0_saved a0_closed a0_faces a0_rankOf a0_placeOf a0_counted a0_steps a0_onto a0_goes a0_firstImage : Nat) (o0 : OX7) (p1 : Int32) (res : Int32 × OX7) (h : fX7_rank o0 p1 = some res) : MI l Z yX7_rank cX7_rank 2 .int 5 110 [.ref a0, .int p1] [(a0, .inr (7, [.int (q7_thrown o0), .ref a0_buffer, .int (q7_length o0), .int (q7_at o0), .int (q7_from o0), .int (q7_kind o0), .int (q7_number o0), .int (q7_wrong o0), .ref a0_now, .ref a0_made, .ref a0_history, .ref a0_saved, .int (q7_entries o0), .int (q7_isSaved o0), .ref a0_closed, .ref a0_faces, .ref a0_rankOf, .ref a0_placeOf, .int (q7_faceMany o0), .int (q7_isLaid o0), .ref a0_counted, .ref a0_steps, .ref a0_onto, .ref a0_goes, .int (q7_found o0), .int (q7_images o0), .ref a0_firstImage, .int (q7_gathered o0)])), (a0_now, .inl (zI Z, 12, .inl (q7_now o0))), (a0_closed, .inl (zI Z, 256, .inl (q7_closed o0))), (a0_faces, .inl (zI Z, 256, .inl (q7_faces o0))), (a0_rankOf, .inl (zI Z, 256, .inl (q7_rankOf o0))), (a0_placeOf, .inl (zI Z, 256, .inl (q7_placeOf o0)))] res.1 [(a0, .inr (7, [.int (q7_thrown res.2), .ref a0_buffer, .int (q7_length o0), .int (q7_at o0), .int (q7_from o0), .int (q7_kind o0), .int (q7_number o0), .int (q7_wrong o0), .ref a0_now, .ref a0_made, .ref a0_history, .ref a0_saved, .int (q7_entries o0), .int (q7_isSaved o0), .ref a0_closed, .ref a0_faces, .ref a0_rankOf, .ref a0_placeOf, .int (q7_faceMany res.2), .int (q7_isLaid res.2), .ref a0_counted, .ref a0_steps, .ref a0_onto, .ref a0_goes, .int (q7_found o0), .int (q7_images o0), .ref a0_firstImage, .int (q7_gathered o0)])), (a0_now, .inl (zI Z, 12, .inl (q7_now o0))), (a0_closed, .inl (zI Z, 256, .inl (q7_closed res.2))), (a0_faces, .inl (zI Z, 256, .inl (q7_faces res.2))), (a0_rankOf, .inl (zI Z, 256, .inl (q7_rankOf res.2))), (a0_placeOf, .inl (zI Z, 256, .inl (q7_placeOf res.2)))] := by
  refine MI_of (by decide +kernel) (Nat.le_of_ble_eq_true rfl) (fun {p e s m args below meth c} A R hR Q hQ C hr hlk => ?_)
  unfold fX7_rank at h
  refine g_lv [0, 1] [(0, .ref a0), (1, .int p1)] rfl ?_
  refine g_aload_n C dX7_rank_0 rfl 0 rfl ?_
  refine g_iconst C 0 dX7_rank_1 (by decide) ?_
  refine g_put C 7 52 gin7 tyX7 tyX7_ok nmX7 0 rfl rfl 0 (by decide) mw_5_85 rfl rfl (ty := .int) (by decide +kernel) rfl rfl (Nat.le_of_ble_eq_true rfl) [(a0, .inr (7, [.int 0, .ref a0_buffer, .int (q7_length o0), .int (q7_at o0), .int (q7_from o0), .int (q7_kind o0), .int (q7_number o0), .int (q7_wrong o0), .ref a0_now, .ref a0_made, .ref a0_history, .ref a0_saved, .int (q7_entries o0), .int (q7_isSaved o0), .ref a0_closed, .ref a0_faces, .ref a0_rankOf, .ref a0_placeOf, .int (q7_faceMany o0), .int (q7_isLaid o0), .ref a0_counted, .ref a0_steps, .ref a0_onto, .ref a0_goes, .int (q7_found o0), .int (q7_images o0), .ref a0_firstImage, .int (q7_gathered o0)])), (a0_now, .inl (zI Z, 12, .inl (q7_now o0))), (a0_closed, .inl (zI Z, 256, .inl (q7_closed o0))), (a0_faces, .inl (zI Z, 256, .inl (q7_faces o0))), (a0_rankOf, .inl (zI Z, 256, .inl (q7_rankOf o0))), (a0_placeOf, .inl (zI Z, 256, .inl (q7_placeOf o0)))] rfl dX7_rank_2 ?_
  refine g_aload_n C dX7_rank_5 rfl 0 rfl ?_
  refine g_aload_n C dX7_rank_6 rfl 0 rfl ?_
  refine g_iload_n C dX7_rank_7 rfl 1 rfl ?_
  obtain ⟨r1, hr2, h⟩ := bd_of h
  refine g_callVi C (kX7_isFace l Z a0 a0_buffer a0_now a0_made a0_history a0_saved a0_closed a0_faces a0_rankOf a0_placeOf a0_counted a0_steps a0_onto a0_goes a0_firstImage (s7_thrown o0 0) p1 r1 hr2) 0 rfl (ci := 7) rfl rfl myX7_isFace 257 mw_6_174 rfl [0, 1, 2, 3, 4, 5] [] [0, 1, 2, 3, 4, 5] (wr := []) rfl rfl (by decide) (by decide) (by decide) [(a0, .inr (7, [.int 0, .ref a0_buffer, .int (q7_length o0), .int (q7_at o0), .int (q7_from o0), .int (q7_kind o0), .int (q7_number o0), .int (q7_wrong o0), .ref a0_now, .ref a0_made, .ref a0_history, .ref a0_saved, .int (q7_entries o0), .int (q7_isSaved o0), .ref a0_closed, .ref a0_faces, .ref a0_rankOf, .ref a0_placeOf, .int (q7_faceMany r1.2), .int (q7_isLaid r1.2), .ref a0_counted, .ref a0_steps, .ref a0_onto, .ref a0_goes, .int (q7_found o0), .int (q7_images o0), .ref a0_firstImage, .int (q7_gathered o0)])), (a0_now, .inl (zI Z, 12, .inl (q7_now o0))), (a0_closed, .inl (zI Z, 256, .inl (q7_closed r1.2))), (a0_faces, .inl (zI Z, 256, .inl (q7_faces r1.2))), (a0_rankOf, .inl (zI Z, 256, .inl (q7_rankOf r1.2))), (a0_placeOf, .inl (zI Z, 256, .inl (q7_placeOf r1.2)))] rfl (by decide) (Nat.le_of_ble_eq_true rfl) (by rw [hR]; exact Nat.le_of_ble_eq_true rfl) (by rw [hR]; exact Nat.le_of_ble_eq_true rfl) ⟨by rw [hR]; exact Nat.le_of_ble_eq_true rfl, by rw [hR]; exact Nat.le_of_ble_eq_true rfl⟩ rfl dX7_rank_8 ?_
  refine g_iconst C 1 dX7_rank_11 (by decide) ?_
  obtain ⟨r3, hr4, h⟩ := bd_of h
  refine g_callVi C (kX7_fails l Z a0 a0_buffer a0_now a0_made a0_history a0_saved a0_closed a0_faces a0_rankOf a0_placeOf a0_counted a0_steps a0_onto a0_goes a0_firstImage (s7_isLaid (s7_faceMany (s7_placeOf (s7_rankOf (s7_faces (s7_closed (s7_thrown o0 0) (q7_closed r1.2)) (q7_faces r1.2)) (q7_rankOf r1.2)) (q7_placeOf r1.2)) (q7_faceMany r1.2)) (q7_isLaid r1.2)) r1.1 1 r3 hr4) 0 rfl (ci := 7) rfl rfl myX7_fails 63 mw_5_181 rfl [0] [1, 2, 3, 4, 5] [5, 0, 1, 2, 3, 4] (wr := [(a0_now, .inl (zI Z, 12, .inl (q7_now o0))), (a0_closed, .inl (zI Z, 256, .inl (q7_closed r1.2))), (a0_faces, .inl (zI Z, 256, .inl (q7_faces r1.2))), (a0_rankOf, .inl (zI Z, 256, .inl (q7_rankOf r1.2))), (a0_placeOf, .inl (zI Z, 256, .inl (q7_placeOf r1.2)))]) rfl rfl (by decide) (by decide) (by decide) [(a0, .inr (7, [.int (q7_thrown r3.2), .ref a0_buffer, .int (q7_length o0), .int (q7_at o0), .int (q7_from o0), .int (q7_kind o0), .int (q7_number o0), .int (q7_wrong o0), .ref a0_now, .ref a0_made, .ref a0_history, .ref a0_saved, .int (q7_entries o0), .int (q7_isSaved o0), .ref a0_closed, .ref a0_faces, .ref a0_rankOf, .ref a0_placeOf, .int (q7_faceMany r1.2), .int (q7_isLaid r1.2), .ref a0_counted, .ref a0_steps, .ref a0_onto, .ref a0_goes, .int (q7_found o0), .int (q7_images o0), .ref a0_firstImage, .int (q7_gathered o0)])), (a0_now, .inl (zI Z, 12, .inl (q7_now o0))), (a0_closed, .inl (zI Z, 256, .inl (q7_closed r1.2))), (a0_faces, .inl (zI Z, 256, .inl (q7_faces r1.2))), (a0_rankOf, .inl (zI Z, 256, .inl (q7_rankOf r1.2))), (a0_placeOf, .inl (zI Z, 256, .inl (q7_placeOf r1.2)))] rfl (by decide) (Nat.le_of_ble_eq_true rfl) (by rw [hR]; exact Nat.le_of_ble_eq_true rfl) (by rw [hR]; exact Nat.le_of_ble_eq_true rfl) ⟨by rw [hR]; exact Nat.le_of_ble_eq_true rfl, by rw [hR]; exact Nat.le_of_ble_eq_true rfl⟩ rfl dX7_rank_12 ?_
  refine g_if_eq C 22 dX7_rank_15 (by decide) (fun c5 => ?_) (fun c5 => ?_)
  · replace h := it_t c5 h
    refine g_aload_n C dX7_rank_22 rfl 0 rfl ?_
    refine g_iload_n C dX7_rank_23 rfl 1 rfl ?_
    obtain ⟨r6, hr7, h⟩ := bd_of h
    refine g_callVi C (kX7_rankAt l Z a0 a0_buffer a0_now a0_made a0_history a0_saved a0_closed a0_faces a0_rankOf a0_placeOf a0_counted a0_steps a0_onto a0_goes a0_firstImage (s7_isLaid (s7_faceMany (s7_placeOf (s7_rankOf (s7_faces (s7_closed (s7_thrown o0 (q7_thrown r3.2)) (q7_closed r1.2)) (q7_faces r1.2)) (q7_rankOf r1.2)) (q7_placeOf r1.2)) (q7_faceMany r1.2)) (q7_isLaid r1.2)) p1 r6 hr7) 0 rfl (ci := 7) rfl rfl myX7_rankAt 263 mw_6_221 rfl [0, 3, 4] [1, 2, 5] [3, 0, 1, 4, 5, 2] (wr := [(a0_now, .inl (zI Z, 12, .inl (q7_now o0))), (a0_closed, .inl (zI Z, 256, .inl (q7_closed r1.2))), (a0_placeOf, .inl (zI Z, 256, .inl (q7_placeOf r1.2)))]) rfl rfl (by decide) (by decide) (by decide) [(a0, .inr (7, [.int (q7_thrown r3.2), .ref a0_buffer, .int (q7_length o0), .int (q7_at o0), .int (q7_from o0), .int (q7_kind o0), .int (q7_number o0), .int (q7_wrong o0), .ref a0_now, .ref a0_made, .ref a0_history, .ref a0_saved, .int (q7_entries o0), .int (q7_isSaved o0), .ref a0_closed, .ref a0_faces, .ref a0_rankOf, .ref a0_placeOf, .int (q7_faceMany r1.2), .int (q7_isLaid r1.2), .ref a0_counted, .ref a0_steps, .ref a0_onto, .ref a0_goes, .int (q7_found o0), .int (q7_images o0), .ref a0_firstImage, .int (q7_gathered o0)])), (a0_now, .inl (zI Z, 12, .inl (q7_now o0))), (a0_closed, .inl (zI Z, 256, .inl (q7_closed r1.2))), (a0_faces, .inl (zI Z, 256, .inl (q7_faces r1.2))), (a0_rankOf, .inl (zI Z, 256, .inl (q7_rankOf r1.2))), (a0_placeOf, .inl (zI Z, 256, .inl (q7_placeOf r1.2)))] rfl (by decide) (Nat.le_of_ble_eq_true rfl) (by rw [hR]; exact Nat.le_of_ble_eq_true rfl) (by rw [hR]; exact Nat.le_of_ble_eq_true rfl) ⟨by rw [hR]; exact Nat.le_of_ble_eq_true rfl, by rw [hR]; exact Nat.le_of_ble_eq_true rfl⟩ rfl dX7_rank_24 ?_
    obtain rfl := Option.some.inj h
    subst hQ
    exact g_iret C rfl hr hlk dX7_rank_27 [0, 1, 2, 3, 4, 5] rfl (by decide)
  · replace h := it_f c5 h
    refine g_iconst C 0 dX7_rank_18 (by decide) ?_
    refine g_goto C 27 dX7_rank_19 (by decide) ?_
    obtain rfl := Option.some.inj h
    subst hQ
    exact g_iret C rfl hr hlk dX7_rank_27 [0, 1, 2, 3, 4, 5] rfl (by decide)
def fX7_heightNow (o0 : OX7) : Option (Int32 × OX7) :=
  (fX7_lay o0).bind fun r1 =>
  ((fX7_all (s7_isLaid (s7_faceMany (s7_placeOf (s7_rankOf (s7_faces (s7_closed o0 (q7_closed r1)) (q7_faces r1)) (q7_rankOf r1)) (q7_placeOf r1)) (q7_faceMany r1)) (q7_isLaid r1))).bind fun r3 =>
  (ck (okI r3 256) (some (((q7_rankOf r1) (ix r3)), (s7_isLaid (s7_faceMany (s7_placeOf (s7_rankOf (s7_faces (s7_closed o0 (q7_closed r1)) (q7_faces r1)) (q7_rankOf r1)) (q7_placeOf r1)) (q7_faceMany r1)) (q7_isLaid r1))))))
theorem myX7_heightNow : MYv yX7_heightNow cX7_heightNow 1 (some .int) 0 := ⟨mw_6_231, ms_69, mw_6_232, mw_1_9, ⟨by decide +kernel, by decide +kernel⟩, by decide +kernel⟩
set_option maxRecDepth 100000 in
set_option maxHeartbeats 4000000 in
theorem kX7_heightNow (l : Launch) (Z : GZ) (a0 a0_buffer a0_now a0_made a0_history a0_saved a0_closed a0_faces a0_rankOf a0_placeOf a0_counted a0_steps a0_onto a0_goes a0_firstImage : Nat) (o0 : OX7) (res : Int32 × OX7) (h : fX7_heightNow o0 = some res) : MI l Z yX7_heightNow cX7_heightNow 1 .int 4 89 [.ref a0] [(a0, .inr (7, [.int (q7_thrown o0), .ref a0_buffer, .int (q7_length o0), .int (q7_at o0), .int (q7_from o0), .int (q7_kind o0), .int (q7_number o0), .int (q7_wrong o0), .ref a0_now, .ref a0_made, .ref a0_history, .ref a0_saved, .int (q7_entries o0), .int (q7_isSaved o0), .ref a0_closed, .ref a0_faces, .ref a0_rankOf, .ref a0_placeOf, .int (q7_faceMany o0), .int (q7_isLaid o0), .ref a0_counted, .ref a0_steps, .ref a0_onto, .ref a0_goes, .int (q7_found o0), .int (q7_images o0), .ref a0_firstImage, .int (q7_gathered o0)])), (a0_now, .inl (zI Z, 12, .inl (q7_now o0))), (a0_closed, .inl (zI Z, 256, .inl (q7_closed o0))), (a0_faces, .inl (zI Z, 256, .inl (q7_faces o0))), (a0_rankOf, .inl (zI Z, 256, .inl (q7_rankOf o0))), (a0_placeOf, .inl (zI Z, 256, .inl (q7_placeOf o0)))] res.1 [(a0, .inr (7, [.int (q7_thrown o0), .ref a0_buffer, .int (q7_length o0), .int (q7_at o0), .int (q7_from o0), .int (q7_kind o0), .int (q7_number o0), .int (q7_wrong o0), .ref a0_now, .ref a0_made, .ref a0_history, .ref a0_saved, .int (q7_entries o0), .int (q7_isSaved o0), .ref a0_closed, .ref a0_faces, .ref a0_rankOf, .ref a0_placeOf, .int (q7_faceMany res.2), .int (q7_isLaid res.2), .ref a0_counted, .ref a0_steps, .ref a0_onto, .ref a0_goes, .int (q7_found o0), .int (q7_images o0), .ref a0_firstImage, .int (q7_gathered o0)])), (a0_now, .inl (zI Z, 12, .inl (q7_now o0))), (a0_closed, .inl (zI Z, 256, .inl (q7_closed res.2))), (a0_faces, .inl (zI Z, 256, .inl (q7_faces res.2))), (a0_rankOf, .inl (zI Z, 256, .inl (q7_rankOf res.2))), (a0_placeOf, .inl (zI Z, 256, .inl (q7_placeOf res.2)))] := by
  refine MI_of (by decide +kernel) (Nat.le_of_ble_eq_true rfl) (fun {p e s m args below meth c} A R hR Q hQ C hr hlk => ?_)
  unfold fX7_heightNow at h
  refine g_lv [0] [(0, .ref a0)] rfl ?_
  refine g_aload_n C dX7_heightNow_0 rfl 0 rfl ?_
  obtain ⟨r1, hr2, h⟩ := bd_of h
  refine g_callVv C (kX7_lay l Z a0 a0_buffer a0_now a0_made a0_history a0_saved a0_closed a0_faces a0_rankOf a0_placeOf a0_counted a0_steps a0_onto a0_goes a0_firstImage o0 r1 hr2) 0 rfl (ci := 7) rfl rfl myX7_lay 217 mw_6_120 rfl [0, 1, 2, 3, 4, 5] [] [0, 1, 2, 3, 4, 5] (wr := []) rfl rfl (by decide) (by decide) (by decide) [(a0, .inr (7, [.int (q7_thrown o0), .ref a0_buffer, .int (q7_length o0), .int (q7_at o0), .int (q7_from o0), .int (q7_kind o0), .int (q7_number o0), .int (q7_wrong o0), .ref a0_now, .ref a0_made, .ref a0_history, .ref a0_saved, .int (q7_entries o0), .int (q7_isSaved o0), .ref a0_closed, .ref a0_faces, .ref a0_rankOf, .ref a0_placeOf, .int (q7_faceMany r1), .int (q7_isLaid r1), .ref a0_counted, .ref a0_steps, .ref a0_onto, .ref a0_goes, .int (q7_found o0), .int (q7_images o0), .ref a0_firstImage, .int (q7_gathered o0)])), (a0_now, .inl (zI Z, 12, .inl (q7_now o0))), (a0_closed, .inl (zI Z, 256, .inl (q7_closed r1))), (a0_faces, .inl (zI Z, 256, .inl (q7_faces r1))), (a0_rankOf, .inl (zI Z, 256, .inl (q7_rankOf r1))), (a0_placeOf, .inl (zI Z, 256, .inl (q7_placeOf r1)))] rfl (by decide) (Nat.le_of_ble_eq_true rfl) (by rw [hR]; exact Nat.le_of_ble_eq_true rfl) (by rw [hR]; exact Nat.le_of_ble_eq_true rfl) ⟨by rw [hR]; exact Nat.le_of_ble_eq_true rfl, by rw [hR]; exact Nat.le_of_ble_eq_true rfl⟩ rfl dX7_heightNow_1 ?_
  refine g_aload_n C dX7_heightNow_4 rfl 0 rfl ?_
  refine g_get C 7 31 gin7 0 rfl rfl 16 (by decide) mw_5_101 rfl rfl dX7_heightNow_5 ?_
  refine g_aload_n C dX7_heightNow_8 rfl 0 rfl ?_
  obtain ⟨r3, hr4, h⟩ := bd_of h
  refine g_callVi C (kX7_all l Z a0 a0_buffer a0_now a0_made a0_history a0_saved a0_closed a0_faces a0_rankOf a0_placeOf a0_counted a0_steps a0_onto a0_goes a0_firstImage (s7_isLaid (s7_faceMany (s7_placeOf (s7_rankOf (s7_faces (s7_closed o0 (q7_closed r1)) (q7_faces r1)) (q7_rankOf r1)) (q7_placeOf r1)) (q7_faceMany r1)) (q7_isLaid r1)) r3 hr4) 0 rfl (ci := 7) rfl rfl myX7_all 196 mw_6_96 rfl [0, 1] [2, 3, 4, 5] [4, 5, 0, 1, 2, 3] (wr := [(a0_closed, .inl (zI Z, 256, .inl (q7_closed r1))), (a0_faces, .inl (zI Z, 256, .inl (q7_faces r1))), (a0_rankOf, .inl (zI Z, 256, .inl (q7_rankOf r1))), (a0_placeOf, .inl (zI Z, 256, .inl (q7_placeOf r1)))]) rfl rfl (by decide) (by decide) (by decide) [(a0, .inr (7, [.int (q7_thrown o0), .ref a0_buffer, .int (q7_length o0), .int (q7_at o0), .int (q7_from o0), .int (q7_kind o0), .int (q7_number o0), .int (q7_wrong o0), .ref a0_now, .ref a0_made, .ref a0_history, .ref a0_saved, .int (q7_entries o0), .int (q7_isSaved o0), .ref a0_closed, .ref a0_faces, .ref a0_rankOf, .ref a0_placeOf, .int (q7_faceMany r1), .int (q7_isLaid r1), .ref a0_counted, .ref a0_steps, .ref a0_onto, .ref a0_goes, .int (q7_found o0), .int (q7_images o0), .ref a0_firstImage, .int (q7_gathered o0)])), (a0_now, .inl (zI Z, 12, .inl (q7_now o0))), (a0_closed, .inl (zI Z, 256, .inl (q7_closed r1))), (a0_faces, .inl (zI Z, 256, .inl (q7_faces r1))), (a0_rankOf, .inl (zI Z, 256, .inl (q7_rankOf r1))), (a0_placeOf, .inl (zI Z, 256, .inl (q7_placeOf r1)))] rfl (by decide) (Nat.le_of_ble_eq_true rfl) (by rw [hR]; exact Nat.le_of_ble_eq_true rfl) (by rw [hR]; exact Nat.le_of_ble_eq_true rfl) ⟨by rw [hR]; exact Nat.le_of_ble_eq_true rfl, by rw [hR]; exact Nat.le_of_ble_eq_true rfl⟩ rfl dX7_heightNow_9 ?_
  obtain ⟨hi5, h⟩ := ck_of h
  refine g_iald C 4 rfl hi5 dX7_heightNow_12 ?_
  obtain rfl := Option.some.inj h
  subst hQ
  exact g_iret C rfl hr hlk dX7_heightNow_13 [0, 1, 2, 3, 4, 5] rfl (by decide)
def fX7_height (o0 : OX7) : Option (Int32 × OX7) :=
  (fX7_heightNow (s7_thrown o0 0)).bind fun r1 =>
  (some (r1.1, (s7_isLaid (s7_faceMany (s7_placeOf (s7_rankOf (s7_faces (s7_closed (s7_thrown o0 0) (q7_closed r1.2)) (q7_faces r1.2)) (q7_rankOf r1.2)) (q7_placeOf r1.2)) (q7_faceMany r1.2)) (q7_isLaid r1.2))))
theorem myX7_height : MYv yX7_height cX7_height 1 (some .int) 0 := ⟨mw_6_226, mw_6_227, mw_6_228, mw_1_9, ⟨by decide +kernel, by decide +kernel⟩, by decide +kernel⟩
set_option maxRecDepth 100000 in
set_option maxHeartbeats 4000000 in
theorem kX7_height (l : Launch) (Z : GZ) (a0 a0_buffer a0_now a0_made a0_history a0_saved a0_closed a0_faces a0_rankOf a0_placeOf a0_counted a0_steps a0_onto a0_goes a0_firstImage : Nat) (o0 : OX7) (res : Int32 × OX7) (h : fX7_height o0 = some res) : MI l Z yX7_height cX7_height 1 .int 5 109 [.ref a0] [(a0, .inr (7, [.int (q7_thrown o0), .ref a0_buffer, .int (q7_length o0), .int (q7_at o0), .int (q7_from o0), .int (q7_kind o0), .int (q7_number o0), .int (q7_wrong o0), .ref a0_now, .ref a0_made, .ref a0_history, .ref a0_saved, .int (q7_entries o0), .int (q7_isSaved o0), .ref a0_closed, .ref a0_faces, .ref a0_rankOf, .ref a0_placeOf, .int (q7_faceMany o0), .int (q7_isLaid o0), .ref a0_counted, .ref a0_steps, .ref a0_onto, .ref a0_goes, .int (q7_found o0), .int (q7_images o0), .ref a0_firstImage, .int (q7_gathered o0)])), (a0_now, .inl (zI Z, 12, .inl (q7_now o0))), (a0_closed, .inl (zI Z, 256, .inl (q7_closed o0))), (a0_faces, .inl (zI Z, 256, .inl (q7_faces o0))), (a0_rankOf, .inl (zI Z, 256, .inl (q7_rankOf o0))), (a0_placeOf, .inl (zI Z, 256, .inl (q7_placeOf o0)))] res.1 [(a0, .inr (7, [.int (q7_thrown res.2), .ref a0_buffer, .int (q7_length o0), .int (q7_at o0), .int (q7_from o0), .int (q7_kind o0), .int (q7_number o0), .int (q7_wrong o0), .ref a0_now, .ref a0_made, .ref a0_history, .ref a0_saved, .int (q7_entries o0), .int (q7_isSaved o0), .ref a0_closed, .ref a0_faces, .ref a0_rankOf, .ref a0_placeOf, .int (q7_faceMany res.2), .int (q7_isLaid res.2), .ref a0_counted, .ref a0_steps, .ref a0_onto, .ref a0_goes, .int (q7_found o0), .int (q7_images o0), .ref a0_firstImage, .int (q7_gathered o0)])), (a0_now, .inl (zI Z, 12, .inl (q7_now o0))), (a0_closed, .inl (zI Z, 256, .inl (q7_closed res.2))), (a0_faces, .inl (zI Z, 256, .inl (q7_faces res.2))), (a0_rankOf, .inl (zI Z, 256, .inl (q7_rankOf res.2))), (a0_placeOf, .inl (zI Z, 256, .inl (q7_placeOf res.2)))] := by
  refine MI_of (by decide +kernel) (Nat.le_of_ble_eq_true rfl) (fun {p e s m args below meth c} A R hR Q hQ C hr hlk => ?_)
  unfold fX7_height at h
  refine g_lv [0] [(0, .ref a0)] rfl ?_
  refine g_aload_n C dX7_height_0 rfl 0 rfl ?_
  refine g_iconst C 0 dX7_height_1 (by decide) ?_
  refine g_put C 7 52 gin7 tyX7 tyX7_ok nmX7 0 rfl rfl 0 (by decide) mw_5_85 rfl rfl (ty := .int) (by decide +kernel) rfl rfl (Nat.le_of_ble_eq_true rfl) [(a0, .inr (7, [.int 0, .ref a0_buffer, .int (q7_length o0), .int (q7_at o0), .int (q7_from o0), .int (q7_kind o0), .int (q7_number o0), .int (q7_wrong o0), .ref a0_now, .ref a0_made, .ref a0_history, .ref a0_saved, .int (q7_entries o0), .int (q7_isSaved o0), .ref a0_closed, .ref a0_faces, .ref a0_rankOf, .ref a0_placeOf, .int (q7_faceMany o0), .int (q7_isLaid o0), .ref a0_counted, .ref a0_steps, .ref a0_onto, .ref a0_goes, .int (q7_found o0), .int (q7_images o0), .ref a0_firstImage, .int (q7_gathered o0)])), (a0_now, .inl (zI Z, 12, .inl (q7_now o0))), (a0_closed, .inl (zI Z, 256, .inl (q7_closed o0))), (a0_faces, .inl (zI Z, 256, .inl (q7_faces o0))), (a0_rankOf, .inl (zI Z, 256, .inl (q7_rankOf o0))), (a0_placeOf, .inl (zI Z, 256, .inl (q7_placeOf o0)))] rfl dX7_height_2 ?_
  refine g_aload_n C dX7_height_5 rfl 0 rfl ?_
  obtain ⟨r1, hr2, h⟩ := bd_of h
  refine g_callVi C (kX7_heightNow l Z a0 a0_buffer a0_now a0_made a0_history a0_saved a0_closed a0_faces a0_rankOf a0_placeOf a0_counted a0_steps a0_onto a0_goes a0_firstImage (s7_thrown o0 0) r1 hr2) 0 rfl (ci := 7) rfl rfl myX7_heightNow 266 mw_6_229 rfl [0, 1, 2, 3, 4, 5] [] [0, 1, 2, 3, 4, 5] (wr := []) rfl rfl (by decide) (by decide) (by decide) [(a0, .inr (7, [.int 0, .ref a0_buffer, .int (q7_length o0), .int (q7_at o0), .int (q7_from o0), .int (q7_kind o0), .int (q7_number o0), .int (q7_wrong o0), .ref a0_now, .ref a0_made, .ref a0_history, .ref a0_saved, .int (q7_entries o0), .int (q7_isSaved o0), .ref a0_closed, .ref a0_faces, .ref a0_rankOf, .ref a0_placeOf, .int (q7_faceMany r1.2), .int (q7_isLaid r1.2), .ref a0_counted, .ref a0_steps, .ref a0_onto, .ref a0_goes, .int (q7_found o0), .int (q7_images o0), .ref a0_firstImage, .int (q7_gathered o0)])), (a0_now, .inl (zI Z, 12, .inl (q7_now o0))), (a0_closed, .inl (zI Z, 256, .inl (q7_closed r1.2))), (a0_faces, .inl (zI Z, 256, .inl (q7_faces r1.2))), (a0_rankOf, .inl (zI Z, 256, .inl (q7_rankOf r1.2))), (a0_placeOf, .inl (zI Z, 256, .inl (q7_placeOf r1.2)))] rfl (by decide) (Nat.le_of_ble_eq_true rfl) (by rw [hR]; exact Nat.le_of_ble_eq_true rfl) (by rw [hR]; exact Nat.le_of_ble_eq_true rfl) ⟨by rw [hR]; exact Nat.le_of_ble_eq_true rfl, by rw [hR]; exact Nat.le_of_ble_eq_true rfl⟩ rfl dX7_height_6 ?_
  obtain rfl := Option.some.inj h
  subst hQ
  exact g_iret C rfl hr hlk dX7_height_9 [0, 1, 2, 3, 4, 5] rfl (by decide)
def fX7_ofRank_L28 (o0 : OX7) (p1 : Int32) (r1 : Int32 × OX7) (r5 : Int32 × OX7) (v8 : Int32 × Int32) : Option ((Int32 × Int32) ⊕ (Int32 × OX7)) :=
  if (q7_faceMany r1.2) ≤ v8.2 then (ex (some (v8.1, (s7_isLaid (s7_faceMany (s7_placeOf (s7_rankOf (s7_faces (s7_closed (s7_thrown o0 (q7_thrown r5.2)) (q7_closed r1.2)) (q7_faces r1.2)) (q7_rankOf r1.2)) (q7_placeOf r1.2)) (q7_faceMany r1.2)) (q7_isLaid r1.2)))))
  else ((fX7_rankAt (s7_isLaid (s7_faceMany (s7_placeOf (s7_rankOf (s7_faces (s7_closed (s7_thrown o0 (q7_thrown r5.2)) (q7_closed r1.2)) (q7_faces r1.2)) (q7_rankOf r1.2)) (q7_placeOf r1.2)) (q7_faceMany r1.2)) (q7_isLaid r1.2)) v8.2).bind fun r11 =>
  (if r11 = p1 then (some (.inl ((v8.1 + 1), (v8.2 + 1))))
  else (some (.inl ((v8.1 + 0), (v8.2 + 1))))))
def fX7_ofRank (o0 : OX7) (p1 : Int32) : Option (Int32 × OX7) :=
  (fX7_heightNow (s7_thrown o0 0)).bind fun r1 =>
  ((fX7_in p1 0 r1.1).bind fun r3 =>
  ((fX7_fails (s7_isLaid (s7_faceMany (s7_placeOf (s7_rankOf (s7_faces (s7_closed (s7_thrown o0 0) (q7_closed r1.2)) (q7_faces r1.2)) (q7_rankOf r1.2)) (q7_placeOf r1.2)) (q7_faceMany r1.2)) (q7_isLaid r1.2)) r3 1).bind fun r5 =>
  (if r5.1 = 0 then (lp (fX7_ofRank_L28 o0 p1 r1 r5) lpN (0, 0))
  else (some (0, (s7_isLaid (s7_faceMany (s7_placeOf (s7_rankOf (s7_faces (s7_closed (s7_thrown o0 (q7_thrown r5.2)) (q7_closed r1.2)) (q7_faces r1.2)) (q7_rankOf r1.2)) (q7_placeOf r1.2)) (q7_faceMany r1.2)) (q7_isLaid r1.2)))))))
theorem myX7_ofRank : MYv yX7_ofRank cX7_ofRank 4 (some .int) 1 := ⟨mw_6_234, mw_6_235, mw_6_236, mw_1_9, ⟨by decide +kernel, by decide +kernel⟩, by decide +kernel⟩
set_option maxRecDepth 100000 in
set_option maxHeartbeats 4000000 in
theorem kX7_ofRank (l : Launch) (Z : GZ) (a0 a0_buffer a0_now a0_made a0_history a0_saved a0_closed a0_faces a0_rankOf a0_placeOf a0_counted a0_steps a0_onto a0_goes a0_firstImage : Nat) (o0 : OX7) (p1 : Int32) (res : Int32 × OX7) (h : fX7_ofRank o0 p1 = some res) : MI l Z yX7_ofRank cX7_ofRank 4 .int 5 109 [.ref a0, .int p1] [(a0, .inr (7, [.int (q7_thrown o0), .ref a0_buffer, .int (q7_length o0), .int (q7_at o0), .int (q7_from o0), .int (q7_kind o0), .int (q7_number o0), .int (q7_wrong o0), .ref a0_now, .ref a0_made, .ref a0_history, .ref a0_saved, .int (q7_entries o0), .int (q7_isSaved o0), .ref a0_closed, .ref a0_faces, .ref a0_rankOf, .ref a0_placeOf, .int (q7_faceMany o0), .int (q7_isLaid o0), .ref a0_counted, .ref a0_steps, .ref a0_onto, .ref a0_goes, .int (q7_found o0), .int (q7_images o0), .ref a0_firstImage, .int (q7_gathered o0)])), (a0_now, .inl (zI Z, 12, .inl (q7_now o0))), (a0_closed, .inl (zI Z, 256, .inl (q7_closed o0))), (a0_faces, .inl (zI Z, 256, .inl (q7_faces o0))), (a0_rankOf, .inl (zI Z, 256, .inl (q7_rankOf o0))), (a0_placeOf, .inl (zI Z, 256, .inl (q7_placeOf o0)))] res.1 [(a0, .inr (7, [.int (q7_thrown res.2), .ref a0_buffer, .int (q7_length o0), .int (q7_at o0), .int (q7_from o0), .int (q7_kind o0), .int (q7_number o0), .int (q7_wrong o0), .ref a0_now, .ref a0_made, .ref a0_history, .ref a0_saved, .int (q7_entries o0), .int (q7_isSaved o0), .ref a0_closed, .ref a0_faces, .ref a0_rankOf, .ref a0_placeOf, .int (q7_faceMany res.2), .int (q7_isLaid res.2), .ref a0_counted, .ref a0_steps, .ref a0_onto, .ref a0_goes, .int (q7_found o0), .int (q7_images o0), .ref a0_firstImage, .int (q7_gathered o0)])), (a0_now, .inl (zI Z, 12, .inl (q7_now o0))), (a0_closed, .inl (zI Z, 256, .inl (q7_closed res.2))), (a0_faces, .inl (zI Z, 256, .inl (q7_faces res.2))), (a0_rankOf, .inl (zI Z, 256, .inl (q7_rankOf res.2))), (a0_placeOf, .inl (zI Z, 256, .inl (q7_placeOf res.2)))] := by
  refine MI_of (by decide +kernel) (Nat.le_of_ble_eq_true rfl) (fun {p e s m args below meth c} A R hR Q hQ C hr hlk => ?_)
  unfold fX7_ofRank at h
  refine g_lv [0, 1] [(0, .ref a0), (1, .int p1)] rfl ?_
  refine g_aload_n C dX7_ofRank_0 rfl 0 rfl ?_
  refine g_iconst C 0 dX7_ofRank_1 (by decide) ?_
  refine g_put C 7 52 gin7 tyX7 tyX7_ok nmX7 0 rfl rfl 0 (by decide) mw_5_85 rfl rfl (ty := .int) (by decide +kernel) rfl rfl (Nat.le_of_ble_eq_true rfl) [(a0, .inr (7, [.int 0, .ref a0_buffer, .int (q7_length o0), .int (q7_at o0), .int (q7_from o0), .int (q7_kind o0), .int (q7_number o0), .int (q7_wrong o0), .ref a0_now, .ref a0_made, .ref a0_history, .ref a0_saved, .int (q7_entries o0), .int (q7_isSaved o0), .ref a0_closed, .ref a0_faces, .ref a0_rankOf, .ref a0_placeOf, .int (q7_faceMany o0), .int (q7_isLaid o0), .ref a0_counted, .ref a0_steps, .ref a0_onto, .ref a0_goes, .int (q7_found o0), .int (q7_images o0), .ref a0_firstImage, .int (q7_gathered o0)])), (a0_now, .inl (zI Z, 12, .inl (q7_now o0))), (a0_closed, .inl (zI Z, 256, .inl (q7_closed o0))), (a0_faces, .inl (zI Z, 256, .inl (q7_faces o0))), (a0_rankOf, .inl (zI Z, 256, .inl (q7_rankOf o0))), (a0_placeOf, .inl (zI Z, 256, .inl (q7_placeOf o0)))] rfl dX7_ofRank_2 ?_
  refine g_aload_n C dX7_ofRank_5 rfl 0 rfl ?_
  refine g_iload_n C dX7_ofRank_6 rfl 1 rfl ?_
  refine g_iconst C 0 dX7_ofRank_7 (by decide) ?_
  refine g_aload_n C dX7_ofRank_8 rfl 0 rfl ?_
  obtain ⟨r1, hr2, h⟩ := bd_of h
  refine g_callVi C (kX7_heightNow l Z a0 a0_buffer a0_now a0_made a0_history a0_saved a0_closed a0_faces a0_rankOf a0_placeOf a0_counted a0_steps a0_onto a0_goes a0_firstImage (s7_thrown o0 0) r1 hr2) 0 rfl (ci := 7) rfl rfl myX7_heightNow 266 mw_6_229 rfl [0, 1, 2, 3, 4, 5] [] [0, 1, 2, 3, 4, 5] (wr := []) rfl rfl (by decide) (by decide) (by decide) [(a0, .inr (7, [.int 0, .ref a0_buffer, .int (q7_length o0), .int (q7_at o0), .int (q7_from o0), .int (q7_kind o0), .int (q7_number o0), .int (q7_wrong o0), .ref a0_now, .ref a0_made, .ref a0_history, .ref a0_saved, .int (q7_entries o0), .int (q7_isSaved o0), .ref a0_closed, .ref a0_faces, .ref a0_rankOf, .ref a0_placeOf, .int (q7_faceMany r1.2), .int (q7_isLaid r1.2), .ref a0_counted, .ref a0_steps, .ref a0_onto, .ref a0_goes, .int (q7_found o0), .int (q7_images o0), .ref a0_firstImage, .int (q7_gathered o0)])), (a0_now, .inl (zI Z, 12, .inl (q7_now o0))), (a0_closed, .inl (zI Z, 256, .inl (q7_closed r1.2))), (a0_faces, .inl (zI Z, 256, .inl (q7_faces r1.2))), (a0_rankOf, .inl (zI Z, 256, .inl (q7_rankOf r1.2))), (a0_placeOf, .inl (zI Z, 256, .inl (q7_placeOf r1.2)))] rfl (by decide) (Nat.le_of_ble_eq_true rfl) (by rw [hR]; exact Nat.le_of_ble_eq_true rfl) (by rw [hR]; exact Nat.le_of_ble_eq_true rfl) ⟨by rw [hR]; exact Nat.le_of_ble_eq_true rfl, by rw [hR]; exact Nat.le_of_ble_eq_true rfl⟩ rfl dX7_ofRank_9 ?_
  obtain ⟨r3, hr4, h⟩ := bd_of h
  refine g_callSi C (kX7_in l Z p1 0 r1.1 r3 hr4) myX7_in 67 mw_5_189 rfl [] [0, 1, 2, 3, 4, 5] [0, 1, 2, 3, 4, 5] (wr := [(a0, .inr (7, [.int 0, .ref a0_buffer, .int (q7_length o0), .int (q7_at o0), .int (q7_from o0), .int (q7_kind o0), .int (q7_number o0), .int (q7_wrong o0), .ref a0_now, .ref a0_made, .ref a0_history, .ref a0_saved, .int (q7_entries o0), .int (q7_isSaved o0), .ref a0_closed, .ref a0_faces, .ref a0_rankOf, .ref a0_placeOf, .int (q7_faceMany r1.2), .int (q7_isLaid r1.2), .ref a0_counted, .ref a0_steps, .ref a0_onto, .ref a0_goes, .int (q7_found o0), .int (q7_images o0), .ref a0_firstImage, .int (q7_gathered o0)])), (a0_now, .inl (zI Z, 12, .inl (q7_now o0))), (a0_closed, .inl (zI Z, 256, .inl (q7_closed r1.2))), (a0_faces, .inl (zI Z, 256, .inl (q7_faces r1.2))), (a0_rankOf, .inl (zI Z, 256, .inl (q7_rankOf r1.2))), (a0_placeOf, .inl (zI Z, 256, .inl (q7_placeOf r1.2)))]) rfl rfl (by decide) (by decide) (by decide) [(a0, .inr (7, [.int 0, .ref a0_buffer, .int (q7_length o0), .int (q7_at o0), .int (q7_from o0), .int (q7_kind o0), .int (q7_number o0), .int (q7_wrong o0), .ref a0_now, .ref a0_made, .ref a0_history, .ref a0_saved, .int (q7_entries o0), .int (q7_isSaved o0), .ref a0_closed, .ref a0_faces, .ref a0_rankOf, .ref a0_placeOf, .int (q7_faceMany r1.2), .int (q7_isLaid r1.2), .ref a0_counted, .ref a0_steps, .ref a0_onto, .ref a0_goes, .int (q7_found o0), .int (q7_images o0), .ref a0_firstImage, .int (q7_gathered o0)])), (a0_now, .inl (zI Z, 12, .inl (q7_now o0))), (a0_closed, .inl (zI Z, 256, .inl (q7_closed r1.2))), (a0_faces, .inl (zI Z, 256, .inl (q7_faces r1.2))), (a0_rankOf, .inl (zI Z, 256, .inl (q7_rankOf r1.2))), (a0_placeOf, .inl (zI Z, 256, .inl (q7_placeOf r1.2)))] rfl (by decide) (Nat.le_of_ble_eq_true rfl) (by rw [hR]; exact Nat.le_of_ble_eq_true rfl) (by rw [hR]; exact Nat.le_of_ble_eq_true rfl) ⟨by rw [hR]; exact Nat.le_of_ble_eq_true rfl, by rw [hR]; exact Nat.le_of_ble_eq_true rfl⟩ rfl dX7_ofRank_12 ?_
  refine g_iconst C 1 dX7_ofRank_15 (by decide) ?_
  obtain ⟨r5, hr6, h⟩ := bd_of h
  refine g_callVi C (kX7_fails l Z a0 a0_buffer a0_now a0_made a0_history a0_saved a0_closed a0_faces a0_rankOf a0_placeOf a0_counted a0_steps a0_onto a0_goes a0_firstImage (s7_isLaid (s7_faceMany (s7_placeOf (s7_rankOf (s7_faces (s7_closed (s7_thrown o0 0) (q7_closed r1.2)) (q7_faces r1.2)) (q7_rankOf r1.2)) (q7_placeOf r1.2)) (q7_faceMany r1.2)) (q7_isLaid r1.2)) r3 1 r5 hr6) 0 rfl (ci := 7) rfl rfl myX7_fails 63 mw_5_181 rfl [0] [1, 2, 3, 4, 5] [5, 0, 1, 2, 3, 4] (wr := [(a0_now, .inl (zI Z, 12, .inl (q7_now o0))), (a0_closed, .inl (zI Z, 256, .inl (q7_closed r1.2))), (a0_faces, .inl (zI Z, 256, .inl (q7_faces r1.2))), (a0_rankOf, .inl (zI Z, 256, .inl (q7_rankOf r1.2))), (a0_placeOf, .inl (zI Z, 256, .inl (q7_placeOf r1.2)))]) rfl rfl (by decide) (by decide) (by decide) [(a0, .inr (7, [.int (q7_thrown r5.2), .ref a0_buffer, .int (q7_length o0), .int (q7_at o0), .int (q7_from o0), .int (q7_kind o0), .int (q7_number o0), .int (q7_wrong o0), .ref a0_now, .ref a0_made, .ref a0_history, .ref a0_saved, .int (q7_entries o0), .int (q7_isSaved o0), .ref a0_closed, .ref a0_faces, .ref a0_rankOf, .ref a0_placeOf, .int (q7_faceMany r1.2), .int (q7_isLaid r1.2), .ref a0_counted, .ref a0_steps, .ref a0_onto, .ref a0_goes, .int (q7_found o0), .int (q7_images o0), .ref a0_firstImage, .int (q7_gathered o0)])), (a0_now, .inl (zI Z, 12, .inl (q7_now o0))), (a0_closed, .inl (zI Z, 256, .inl (q7_closed r1.2))), (a0_faces, .inl (zI Z, 256, .inl (q7_faces r1.2))), (a0_rankOf, .inl (zI Z, 256, .inl (q7_rankOf r1.2))), (a0_placeOf, .inl (zI Z, 256, .inl (q7_placeOf r1.2)))] rfl (by decide) (Nat.le_of_ble_eq_true rfl) (by rw [hR]; exact Nat.le_of_ble_eq_true rfl) (by rw [hR]; exact Nat.le_of_ble_eq_true rfl) ⟨by rw [hR]; exact Nat.le_of_ble_eq_true rfl, by rw [hR]; exact Nat.le_of_ble_eq_true rfl⟩ rfl dX7_ofRank_16 ?_
  refine g_if_eq C 24 dX7_ofRank_19 (by decide) (fun c7 => ?_) (fun c7 => ?_)
  · replace h := it_t c7 h
    refine g_iconst C 0 dX7_ofRank_24 (by decide) ?_
    refine g_istore_n C dX7_ofRank_25 rfl (by decide) [(2, .int 0), (0, .ref a0), (1, .int p1)] rfl ?_
    refine g_iconst C 0 dX7_ofRank_26 (by decide) ?_
    refine g_istore_n C dX7_ofRank_27 rfl (by decide) [(3, .int 0), (2, .int 0), (0, .ref a0), (1, .int p1)] rfl ?_
    refine g_lv [2, 3, 1, 0] [(0, .ref a0), (1, .int p1), (2, .int 0), (3, .int 0)] rfl ?_
    refine g_loop (lvf := fun v8 => [(0, .ref a0), (1, .int p1), (2, .int v8.1), (3, .int v8.2)]) (wsf := fun v8 => [(a0, .inr (7, [.int (q7_thrown r5.2), .ref a0_buffer, .int (q7_length o0), .int (q7_at o0), .int (q7_from o0), .int (q7_kind o0), .int (q7_number o0), .int (q7_wrong o0), .ref a0_now, .ref a0_made, .ref a0_history, .ref a0_saved, .int (q7_entries o0), .int (q7_isSaved o0), .ref a0_closed, .ref a0_faces, .ref a0_rankOf, .ref a0_placeOf, .int (q7_faceMany r1.2), .int (q7_isLaid r1.2), .ref a0_counted, .ref a0_steps, .ref a0_onto, .ref a0_goes, .int (q7_found o0), .int (q7_images o0), .ref a0_firstImage, .int (q7_gathered o0)])), (a0_now, .inl (zI Z, 12, .inl (q7_now o0))), (a0_closed, .inl (zI Z, 256, .inl (q7_closed r1.2))), (a0_faces, .inl (zI Z, 256, .inl (q7_faces r1.2))), (a0_rankOf, .inl (zI Z, 256, .inl (q7_rankOf r1.2))), (a0_placeOf, .inl (zI Z, 256, .inl (q7_placeOf r1.2)))]) h (fun v8 y1 h hk1 hx1 => ?_)
    refine g_eq (lv1 := [(0, .ref a0), (1, .int p1), (2, .int v8.1), (3, .int v8.2)]) (st1 := []) (ws1 := [(a0, .inr (7, [.int (q7_thrown r5.2), .ref a0_buffer, .int (q7_length o0), .int (q7_at o0), .int (q7_from o0), .int (q7_kind o0), .int (q7_number o0), .int (q7_wrong o0), .ref a0_now, .ref a0_made, .ref a0_history, .ref a0_saved, .int (q7_entries o0), .int (q7_isSaved o0), .ref a0_closed, .ref a0_faces, .ref a0_rankOf, .ref a0_placeOf, .int (q7_faceMany r1.2), .int (q7_isLaid r1.2), .ref a0_counted, .ref a0_steps, .ref a0_onto, .ref a0_goes, .int (q7_found o0), .int (q7_images o0), .ref a0_firstImage, .int (q7_gathered o0)])), (a0_now, .inl (zI Z, 12, .inl (q7_now o0))), (a0_closed, .inl (zI Z, 256, .inl (q7_closed r1.2))), (a0_faces, .inl (zI Z, 256, .inl (q7_faces r1.2))), (a0_rankOf, .inl (zI Z, 256, .inl (q7_rankOf r1.2))), (a0_placeOf, .inl (zI Z, 256, .inl (q7_placeOf r1.2)))]) rfl rfl rfl rfl ?_
    unfold fX7_ofRank_L28 at h
    refine g_iload_n C dX7_ofRank_28 rfl 3 rfl ?_
    refine g_aload_n C dX7_ofRank_29 rfl 0 rfl ?_
    refine g_get C 7 214 gin7 0 rfl rfl 18 (by decide) mw_5_103 rfl rfl dX7_ofRank_30 ?_
    refine g_icmp_ge C 59 dX7_ofRank_33 (by decide) (fun c9 => ?_) (fun c9 => ?_)
    · replace h := it_t c9 h
      obtain ⟨r10, h, hy⟩ := ex_of h
      rw [hx1 r10 hy] at h
      refine g_iload_n C dX7_ofRank_59 rfl 2 rfl ?_
      obtain rfl := Option.some.inj h
      subst hQ
      exact g_iret C rfl hr hlk dX7_ofRank_60 [0, 1, 2, 3, 4, 5] rfl (by decide)
    · replace h := it_f c9 h
      refine g_iload_n C dX7_ofRank_36 rfl 2 rfl ?_
      refine g_aload_n C dX7_ofRank_37 rfl 0 rfl ?_
      refine g_iload_n C dX7_ofRank_38 rfl 3 rfl ?_
      obtain ⟨r11, hr12, h⟩ := bd_of h
      refine g_callVi C (kX7_rankAt l Z a0 a0_buffer a0_now a0_made a0_history a0_saved a0_closed a0_faces a0_rankOf a0_placeOf a0_counted a0_steps a0_onto a0_goes a0_firstImage (s7_isLaid (s7_faceMany (s7_placeOf (s7_rankOf (s7_faces (s7_closed (s7_thrown o0 (q7_thrown r5.2)) (q7_closed r1.2)) (q7_faces r1.2)) (q7_rankOf r1.2)) (q7_placeOf r1.2)) (q7_faceMany r1.2)) (q7_isLaid r1.2)) v8.2 r11 hr12) 0 rfl (ci := 7) rfl rfl myX7_rankAt 263 mw_6_221 rfl [0, 3, 4] [1, 2, 5] [3, 0, 1, 4, 5, 2] (wr := [(a0_now, .inl (zI Z, 12, .inl (q7_now o0))), (a0_closed, .inl (zI Z, 256, .inl (q7_closed r1.2))), (a0_placeOf, .inl (zI Z, 256, .inl (q7_placeOf r1.2)))]) rfl rfl (by decide) (by decide) (by decide) [(a0, .inr (7, [.int (q7_thrown r5.2), .ref a0_buffer, .int (q7_length o0), .int (q7_at o0), .int (q7_from o0), .int (q7_kind o0), .int (q7_number o0), .int (q7_wrong o0), .ref a0_now, .ref a0_made, .ref a0_history, .ref a0_saved, .int (q7_entries o0), .int (q7_isSaved o0), .ref a0_closed, .ref a0_faces, .ref a0_rankOf, .ref a0_placeOf, .int (q7_faceMany r1.2), .int (q7_isLaid r1.2), .ref a0_counted, .ref a0_steps, .ref a0_onto, .ref a0_goes, .int (q7_found o0), .int (q7_images o0), .ref a0_firstImage, .int (q7_gathered o0)])), (a0_now, .inl (zI Z, 12, .inl (q7_now o0))), (a0_closed, .inl (zI Z, 256, .inl (q7_closed r1.2))), (a0_faces, .inl (zI Z, 256, .inl (q7_faces r1.2))), (a0_rankOf, .inl (zI Z, 256, .inl (q7_rankOf r1.2))), (a0_placeOf, .inl (zI Z, 256, .inl (q7_placeOf r1.2)))] rfl (by decide) (Nat.le_of_ble_eq_true rfl) (by rw [hR]; exact Nat.le_of_ble_eq_true rfl) (by rw [hR]; exact Nat.le_of_ble_eq_true rfl) ⟨by rw [hR]; exact Nat.le_of_ble_eq_true rfl, by rw [hR]; exact Nat.le_of_ble_eq_true rfl⟩ rfl dX7_ofRank_39 ?_
      refine g_iload_n C dX7_ofRank_42 rfl 1 rfl ?_
      refine g_icmp_ne C 50 dX7_ofRank_43 (by decide) (fun c13 => ?_) (fun c13 => ?_)
      · replace h := it_f c13 h
        refine g_iconst C 0 dX7_ofRank_50 (by decide) ?_
        refine g_iadd C dX7_ofRank_51 ?_
        refine g_istore_n C dX7_ofRank_52 rfl (by decide) [(2, .int (v8.1 + 0)), (0, .ref a0), (1, .int p1), (3, .int v8.2)] rfl ?_
        refine g_iinc C (v8.2 + 1) dX7_ofRank_53 3 rfl rfl (by decide) [(3, .int (v8.2 + 1)), (2, .int (v8.1 + 0)), (0, .ref a0), (1, .int p1)] rfl ?_
        refine g_goto C 28 dX7_ofRank_56 (by decide) ?_
        refine g_lv [2, 3, 1, 0] [(0, .ref a0), (1, .int p1), (2, .int (v8.1 + 0)), (3, .int (v8.2 + 1))] rfl ?_
        exact hk1 ((v8.1 + 0), (v8.2 + 1)) (Option.some.inj h).symm
      · replace h := it_t c13 h
        refine g_iconst C 1 dX7_ofRank_46 (by decide) ?_
        refine g_goto C 51 dX7_ofRank_47 (by decide) ?_
        refine g_iadd C dX7_ofRank_51 ?_
        refine g_istore_n C dX7_ofRank_52 rfl (by decide) [(2, .int (v8.1 + 1)), (0, .ref a0), (1, .int p1), (3, .int v8.2)] rfl ?_
        refine g_iinc C (v8.2 + 1) dX7_ofRank_53 3 rfl rfl (by decide) [(3, .int (v8.2 + 1)), (2, .int (v8.1 + 1)), (0, .ref a0), (1, .int p1)] rfl ?_
        refine g_goto C 28 dX7_ofRank_56 (by decide) ?_
        refine g_lv [2, 3, 1, 0] [(0, .ref a0), (1, .int p1), (2, .int (v8.1 + 1)), (3, .int (v8.2 + 1))] rfl ?_
        exact hk1 ((v8.1 + 1), (v8.2 + 1)) (Option.some.inj h).symm
  · replace h := it_f c7 h
    refine g_iconst C 0 dX7_ofRank_22 (by decide) ?_
    obtain rfl := Option.some.inj h
    subst hQ
    exact g_iret C rfl hr hlk dX7_ofRank_23 [0, 1, 2, 3, 4, 5] rfl (by decide)
def fX7_covers_ (o0 : OX7) (p1 : Int32) (p2 : Int32) : Option (Int32 × OX7) :=
  (fX7_isFace (s7_thrown o0 0) p1).bind fun r1 =>
  ((fX7_fails (s7_isLaid (s7_faceMany (s7_placeOf (s7_rankOf (s7_faces (s7_closed (s7_thrown o0 0) (q7_closed r1.2)) (q7_faces r1.2)) (q7_rankOf r1.2)) (q7_placeOf r1.2)) (q7_faceMany r1.2)) (q7_isLaid r1.2)) r1.1 1).bind fun r3 =>
  (if r3.1 = 0 then ((fX7_coverCount (s7_isLaid (s7_faceMany (s7_placeOf (s7_rankOf (s7_faces (s7_closed (s7_thrown o0 (q7_thrown r3.2)) (q7_closed r1.2)) (q7_faces r1.2)) (q7_rankOf r1.2)) (q7_placeOf r1.2)) (q7_faceMany r1.2)) (q7_isLaid r1.2)) p1 p2).bind fun r6 =>
  (some (r6, (s7_isLaid (s7_faceMany (s7_placeOf (s7_rankOf (s7_faces (s7_closed (s7_thrown o0 (q7_thrown r3.2)) (q7_closed r1.2)) (q7_faces r1.2)) (q7_rankOf r1.2)) (q7_placeOf r1.2)) (q7_faceMany r1.2)) (q7_isLaid r1.2)))))
  else (some (0, (s7_isLaid (s7_faceMany (s7_placeOf (s7_rankOf (s7_faces (s7_closed (s7_thrown o0 (q7_thrown r3.2)) (q7_closed r1.2)) (q7_faces r1.2)) (q7_rankOf r1.2)) (q7_placeOf r1.2)) (q7_faceMany r1.2)) (q7_isLaid r1.2))))))
theorem myX7_covers_ : MYv yX7_covers_ cX7_covers_ 3 (some .int) 2 := ⟨mw_6_238, mw_6_239, mw_7_0, mw_1_9, ⟨by decide +kernel, by decide +kernel⟩, by decide +kernel⟩
set_option maxRecDepth 100000 in
set_option maxHeartbeats 4000000 in
theorem kX7_covers_ (l : Launch) (Z : GZ) (a0 a0_buffer a0_now a0_made a0_history a0_saved a0_closed a0_faces a0_rankOf a0_placeOf a0_counted a0_steps a0_onto a0_goes a0_firstImage : Nat) (o0 : OX7) (p1 : Int32) (p2 : Int32) (res : Int32 × OX7) (h : fX7_covers_ o0 p1 p2 = some res) : MI l Z yX7_covers_ cX7_covers_ 3 .int 5 110 [.ref a0, .int p1, .int p2] [(a0, .inr (7, [.int (q7_thrown o0), .ref a0_buffer, .int (q7_length o0), .int (q7_at o0), .int (q7_from o0), .int (q7_kind o0), .int (q7_number o0), .int (q7_wrong o0), .ref a0_now, .ref a0_made, .ref a0_history, .ref a0_saved, .int (q7_entries o0), .int (q7_isSaved o0), .ref a0_closed, .ref a0_faces, .ref a0_rankOf, .ref a0_placeOf, .int (q7_faceMany o0), .int (q7_isLaid o0), .ref a0_counted, .ref a0_steps, .ref a0_onto, .ref a0_goes, .int (q7_found o0), .int (q7_images o0), .ref a0_firstImage, .int (q7_gathered o0)])), (a0_now, .inl (zI Z, 12, .inl (q7_now o0))), (a0_closed, .inl (zI Z, 256, .inl (q7_closed o0))), (a0_faces, .inl (zI Z, 256, .inl (q7_faces o0))), (a0_rankOf, .inl (zI Z, 256, .inl (q7_rankOf o0))), (a0_placeOf, .inl (zI Z, 256, .inl (q7_placeOf o0)))] res.1 [(a0, .inr (7, [.int (q7_thrown res.2), .ref a0_buffer, .int (q7_length o0), .int (q7_at o0), .int (q7_from o0), .int (q7_kind o0), .int (q7_number o0), .int (q7_wrong o0), .ref a0_now, .ref a0_made, .ref a0_history, .ref a0_saved, .int (q7_entries o0), .int (q7_isSaved o0), .ref a0_closed, .ref a0_faces, .ref a0_rankOf, .ref a0_placeOf, .int (q7_faceMany res.2), .int (q7_isLaid res.2), .ref a0_counted, .ref a0_steps, .ref a0_onto, .ref a0_goes, .int (q7_found o0), .int (q7_images o0), .ref a0_firstImage, .int (q7_gathered o0)])), (a0_now, .inl (zI Z, 12, .inl (q7_now o0))), (a0_closed, .inl (zI Z, 256, .inl (q7_closed res.2))), (a0_faces, .inl (zI Z, 256, .inl (q7_faces res.2))), (a0_rankOf, .inl (zI Z, 256, .inl (q7_rankOf res.2))), (a0_placeOf, .inl (zI Z, 256, .inl (q7_placeOf res.2)))] := by
  refine MI_of (by decide +kernel) (Nat.le_of_ble_eq_true rfl) (fun {p e s m args below meth c} A R hR Q hQ C hr hlk => ?_)
  unfold fX7_covers_ at h
  refine g_lv [0, 1, 2] [(0, .ref a0), (1, .int p1), (2, .int p2)] rfl ?_
  refine g_aload_n C dX7_covers__0 rfl 0 rfl ?_
  refine g_iconst C 0 dX7_covers__1 (by decide) ?_
  refine g_put C 7 52 gin7 tyX7 tyX7_ok nmX7 0 rfl rfl 0 (by decide) mw_5_85 rfl rfl (ty := .int) (by decide +kernel) rfl rfl (Nat.le_of_ble_eq_true rfl) [(a0, .inr (7, [.int 0, .ref a0_buffer, .int (q7_length o0), .int (q7_at o0), .int (q7_from o0), .int (q7_kind o0), .int (q7_number o0), .int (q7_wrong o0), .ref a0_now, .ref a0_made, .ref a0_history, .ref a0_saved, .int (q7_entries o0), .int (q7_isSaved o0), .ref a0_closed, .ref a0_faces, .ref a0_rankOf, .ref a0_placeOf, .int (q7_faceMany o0), .int (q7_isLaid o0), .ref a0_counted, .ref a0_steps, .ref a0_onto, .ref a0_goes, .int (q7_found o0), .int (q7_images o0), .ref a0_firstImage, .int (q7_gathered o0)])), (a0_now, .inl (zI Z, 12, .inl (q7_now o0))), (a0_closed, .inl (zI Z, 256, .inl (q7_closed o0))), (a0_faces, .inl (zI Z, 256, .inl (q7_faces o0))), (a0_rankOf, .inl (zI Z, 256, .inl (q7_rankOf o0))), (a0_placeOf, .inl (zI Z, 256, .inl (q7_placeOf o0)))] rfl dX7_covers__2 ?_
  refine g_aload_n C dX7_covers__5 rfl 0 rfl ?_
  refine g_aload_n C dX7_covers__6 rfl 0 rfl ?_
  refine g_iload_n C dX7_covers__7 rfl 1 rfl ?_
  obtain ⟨r1, hr2, h⟩ := bd_of h
  refine g_callVi C (kX7_isFace l Z a0 a0_buffer a0_now a0_made a0_history a0_saved a0_closed a0_faces a0_rankOf a0_placeOf a0_counted a0_steps a0_onto a0_goes a0_firstImage (s7_thrown o0 0) p1 r1 hr2) 0 rfl (ci := 7) rfl rfl myX7_isFace 257 mw_6_174 rfl [0, 1, 2, 3, 4, 5] [] [0, 1, 2, 3, 4, 5] (wr := []) rfl rfl (by decide) (by decide) (by decide) [(a0, .inr (7, [.int 0, .ref a0_buffer, .int (q7_length o0), .int (q7_at o0), .int (q7_from o0), .int (q7_kind o0), .int (q7_number o0), .int (q7_wrong o0), .ref a0_now, .ref a0_made, .ref a0_history, .ref a0_saved, .int (q7_entries o0), .int (q7_isSaved o0), .ref a0_closed, .ref a0_faces, .ref a0_rankOf, .ref a0_placeOf, .int (q7_faceMany r1.2), .int (q7_isLaid r1.2), .ref a0_counted, .ref a0_steps, .ref a0_onto, .ref a0_goes, .int (q7_found o0), .int (q7_images o0), .ref a0_firstImage, .int (q7_gathered o0)])), (a0_now, .inl (zI Z, 12, .inl (q7_now o0))), (a0_closed, .inl (zI Z, 256, .inl (q7_closed r1.2))), (a0_faces, .inl (zI Z, 256, .inl (q7_faces r1.2))), (a0_rankOf, .inl (zI Z, 256, .inl (q7_rankOf r1.2))), (a0_placeOf, .inl (zI Z, 256, .inl (q7_placeOf r1.2)))] rfl (by decide) (Nat.le_of_ble_eq_true rfl) (by rw [hR]; exact Nat.le_of_ble_eq_true rfl) (by rw [hR]; exact Nat.le_of_ble_eq_true rfl) ⟨by rw [hR]; exact Nat.le_of_ble_eq_true rfl, by rw [hR]; exact Nat.le_of_ble_eq_true rfl⟩ rfl dX7_covers__8 ?_
  refine g_iconst C 1 dX7_covers__11 (by decide) ?_
  obtain ⟨r3, hr4, h⟩ := bd_of h
  refine g_callVi C (kX7_fails l Z a0 a0_buffer a0_now a0_made a0_history a0_saved a0_closed a0_faces a0_rankOf a0_placeOf a0_counted a0_steps a0_onto a0_goes a0_firstImage (s7_isLaid (s7_faceMany (s7_placeOf (s7_rankOf (s7_faces (s7_closed (s7_thrown o0 0) (q7_closed r1.2)) (q7_faces r1.2)) (q7_rankOf r1.2)) (q7_placeOf r1.2)) (q7_faceMany r1.2)) (q7_isLaid r1.2)) r1.1 1 r3 hr4) 0 rfl (ci := 7) rfl rfl myX7_fails 63 mw_5_181 rfl [0] [1, 2, 3, 4, 5] [5, 0, 1, 2, 3, 4] (wr := [(a0_now, .inl (zI Z, 12, .inl (q7_now o0))), (a0_closed, .inl (zI Z, 256, .inl (q7_closed r1.2))), (a0_faces, .inl (zI Z, 256, .inl (q7_faces r1.2))), (a0_rankOf, .inl (zI Z, 256, .inl (q7_rankOf r1.2))), (a0_placeOf, .inl (zI Z, 256, .inl (q7_placeOf r1.2)))]) rfl rfl (by decide) (by decide) (by decide) [(a0, .inr (7, [.int (q7_thrown r3.2), .ref a0_buffer, .int (q7_length o0), .int (q7_at o0), .int (q7_from o0), .int (q7_kind o0), .int (q7_number o0), .int (q7_wrong o0), .ref a0_now, .ref a0_made, .ref a0_history, .ref a0_saved, .int (q7_entries o0), .int (q7_isSaved o0), .ref a0_closed, .ref a0_faces, .ref a0_rankOf, .ref a0_placeOf, .int (q7_faceMany r1.2), .int (q7_isLaid r1.2), .ref a0_counted, .ref a0_steps, .ref a0_onto, .ref a0_goes, .int (q7_found o0), .int (q7_images o0), .ref a0_firstImage, .int (q7_gathered o0)])), (a0_now, .inl (zI Z, 12, .inl (q7_now o0))), (a0_closed, .inl (zI Z, 256, .inl (q7_closed r1.2))), (a0_faces, .inl (zI Z, 256, .inl (q7_faces r1.2))), (a0_rankOf, .inl (zI Z, 256, .inl (q7_rankOf r1.2))), (a0_placeOf, .inl (zI Z, 256, .inl (q7_placeOf r1.2)))] rfl (by decide) (Nat.le_of_ble_eq_true rfl) (by rw [hR]; exact Nat.le_of_ble_eq_true rfl) (by rw [hR]; exact Nat.le_of_ble_eq_true rfl) ⟨by rw [hR]; exact Nat.le_of_ble_eq_true rfl, by rw [hR]; exact Nat.le_of_ble_eq_true rfl⟩ rfl dX7_covers__12 ?_
  refine g_if_eq C 22 dX7_covers__15 (by decide) (fun c5 => ?_) (fun c5 => ?_)
  · replace h := it_t c5 h
    refine g_aload_n C dX7_covers__22 rfl 0 rfl ?_
    refine g_iload_n C dX7_covers__23 rfl 1 rfl ?_
    refine g_iload_n C dX7_covers__24 rfl 2 rfl ?_
    obtain ⟨r6, hr7, h⟩ := bd_of h
    refine g_callVi C (kX7_coverCount l Z a0 a0_buffer a0_now a0_made a0_history a0_saved a0_closed a0_faces a0_rankOf a0_placeOf a0_counted a0_steps a0_onto a0_goes a0_firstImage (s7_isLaid (s7_faceMany (s7_placeOf (s7_rankOf (s7_faces (s7_closed (s7_thrown o0 (q7_thrown r3.2)) (q7_closed r1.2)) (q7_faces r1.2)) (q7_rankOf r1.2)) (q7_placeOf r1.2)) (q7_faceMany r1.2)) (q7_isLaid r1.2)) p1 p2 r6 hr7) 0 rfl (ci := 7) rfl rfl myX7_coverCount 244 mw_6_148 rfl [0, 2, 3] [1, 4, 5] [3, 0, 4, 5, 1, 2] (wr := [(a0_now, .inl (zI Z, 12, .inl (q7_now o0))), (a0_rankOf, .inl (zI Z, 256, .inl (q7_rankOf r1.2))), (a0_placeOf, .inl (zI Z, 256, .inl (q7_placeOf r1.2)))]) rfl rfl (by decide) (by decide) (by decide) [(a0, .inr (7, [.int (q7_thrown r3.2), .ref a0_buffer, .int (q7_length o0), .int (q7_at o0), .int (q7_from o0), .int (q7_kind o0), .int (q7_number o0), .int (q7_wrong o0), .ref a0_now, .ref a0_made, .ref a0_history, .ref a0_saved, .int (q7_entries o0), .int (q7_isSaved o0), .ref a0_closed, .ref a0_faces, .ref a0_rankOf, .ref a0_placeOf, .int (q7_faceMany r1.2), .int (q7_isLaid r1.2), .ref a0_counted, .ref a0_steps, .ref a0_onto, .ref a0_goes, .int (q7_found o0), .int (q7_images o0), .ref a0_firstImage, .int (q7_gathered o0)])), (a0_now, .inl (zI Z, 12, .inl (q7_now o0))), (a0_closed, .inl (zI Z, 256, .inl (q7_closed r1.2))), (a0_faces, .inl (zI Z, 256, .inl (q7_faces r1.2))), (a0_rankOf, .inl (zI Z, 256, .inl (q7_rankOf r1.2))), (a0_placeOf, .inl (zI Z, 256, .inl (q7_placeOf r1.2)))] rfl (by decide) (Nat.le_of_ble_eq_true rfl) (by rw [hR]; exact Nat.le_of_ble_eq_true rfl) (by rw [hR]; exact Nat.le_of_ble_eq_true rfl) ⟨by rw [hR]; exact Nat.le_of_ble_eq_true rfl, by rw [hR]; exact Nat.le_of_ble_eq_true rfl⟩ rfl dX7_covers__25 ?_
    obtain rfl := Option.some.inj h
    subst hQ
    exact g_iret C rfl hr hlk dX7_covers__28 [0, 1, 2, 3, 4, 5] rfl (by decide)
  · replace h := it_f c5 h
    refine g_iconst C 0 dX7_covers__18 (by decide) ?_
    refine g_goto C 28 dX7_covers__19 (by decide) ?_
    obtain rfl := Option.some.inj h
    subst hQ
    exact g_iret C rfl hr hlk dX7_covers__28 [0, 1, 2, 3, 4, 5] rfl (by decide)
def fX7_cover_L26 (o0 : OX7) (p1 : Int32) (p2 : Int32) (p3 : Int32) (r1 : Int32 × OX7) (r3 : Int32 × OX7) (v6 : Int32 × Int32) : Option ((Int32 × Int32) ⊕ (Int32 × OX7)) :=
  if (q7_faceMany r1.2) ≤ v6.2 then (ex (some (0, (s7_isLaid (s7_faceMany (s7_placeOf (s7_rankOf (s7_faces (s7_closed (s7_thrown o0 1) (q7_closed r1.2)) (q7_faces r1.2)) (q7_rankOf r1.2)) (q7_placeOf r1.2)) (q7_faceMany r1.2)) (q7_isLaid r1.2)))))
  else (if p3 < 0 then (ex (some (0, (s7_isLaid (s7_faceMany (s7_placeOf (s7_rankOf (s7_faces (s7_closed (s7_thrown o0 1) (q7_closed r1.2)) (q7_faces r1.2)) (q7_rankOf r1.2)) (q7_placeOf r1.2)) (q7_faceMany r1.2)) (q7_isLaid r1.2)))))
  else (if p2 = 0 then ((fX7_covers (s7_isLaid (s7_faceMany (s7_placeOf (s7_rankOf (s7_faces (s7_closed (s7_thrown o0 (q7_thrown r3.2)) (q7_closed r1.2)) (q7_faces r1.2)) (q7_rankOf r1.2)) (q7_placeOf r1.2)) (q7_faceMany r1.2)) (q7_isLaid r1.2)) p1 v6.2).bind fun r12 =>
  (if r12 = 0 then (some (.inl (v6.1, (v6.2 + 1))))
  else (if v6.1 = 0 then (ex (some (v6.2, (s7_isLaid (s7_faceMany (s7_placeOf (s7_rankOf (s7_faces (s7_closed (s7_thrown o0 (q7_thrown r3.2)) (q7_closed r1.2)) (q7_faces r1.2)) (q7_rankOf r1.2)) (q7_placeOf r1.2)) (q7_faceMany r1.2)) (q7_isLaid r1.2)))))
  else (some (.inl ((v6.1 + (-1)), (v6.2 + 1)))))))
  else ((fX7_covers (s7_isLaid (s7_faceMany (s7_placeOf (s7_rankOf (s7_faces (s7_closed (s7_thrown o0 (q7_thrown r3.2)) (q7_closed r1.2)) (q7_faces r1.2)) (q7_rankOf r1.2)) (q7_placeOf r1.2)) (q7_faceMany r1.2)) (q7_isLaid r1.2)) v6.2 p1).bind fun r17 =>
  (if r17 = 0 then (some (.inl (v6.1, (v6.2 + 1))))
  else (if v6.1 = 0 then (ex (some (v6.2, (s7_isLaid (s7_faceMany (s7_placeOf (s7_rankOf (s7_faces (s7_closed (s7_thrown o0 (q7_thrown r3.2)) (q7_closed r1.2)) (q7_faces r1.2)) (q7_rankOf r1.2)) (q7_placeOf r1.2)) (q7_faceMany r1.2)) (q7_isLaid r1.2)))))
  else (some (.inl ((v6.1 + (-1)), (v6.2 + 1)))))))))
def fX7_cover (o0 : OX7) (p1 : Int32) (p2 : Int32) (p3 : Int32) : Option (Int32 × OX7) :=
  (fX7_isFace (s7_thrown o0 0) p1).bind fun r1 =>
  ((fX7_fails (s7_isLaid (s7_faceMany (s7_placeOf (s7_rankOf (s7_faces (s7_closed (s7_thrown o0 0) (q7_closed r1.2)) (q7_faces r1.2)) (q7_rankOf r1.2)) (q7_placeOf r1.2)) (q7_faceMany r1.2)) (q7_isLaid r1.2)) r1.1 1).bind fun r3 =>
  (if r3.1 = 0 then (lp (fX7_cover_L26 o0 p1 p2 p3 r1 r3) lpN (p3, 0))
  else (some (0, (s7_isLaid (s7_faceMany (s7_placeOf (s7_rankOf (s7_faces (s7_closed (s7_thrown o0 (q7_thrown r3.2)) (q7_closed r1.2)) (q7_faces r1.2)) (q7_rankOf r1.2)) (q7_placeOf r1.2)) (q7_faceMany r1.2)) (q7_isLaid r1.2))))))
theorem myX7_cover : MYv yX7_cover cX7_cover 6 (some .int) 3 := ⟨mw_7_2, mw_7_3, mw_7_4, mw_1_9, ⟨by decide +kernel, by decide +kernel⟩, by decide +kernel⟩
set_option maxRecDepth 100000 in
set_option maxHeartbeats 4000000 in
theorem kX7_cover (l : Launch) (Z : GZ) (a0 a0_buffer a0_now a0_made a0_history a0_saved a0_closed a0_faces a0_rankOf a0_placeOf a0_counted a0_steps a0_onto a0_goes a0_firstImage : Nat) (o0 : OX7) (p1 : Int32) (p2 : Int32) (p3 : Int32) (res : Int32 × OX7) (h : fX7_cover o0 p1 p2 p3 = some res) : MI l Z yX7_cover cX7_cover 6 .int 5 110 [.ref a0, .int p1, .int p2, .int p3] [(a0, .inr (7, [.int (q7_thrown o0), .ref a0_buffer, .int (q7_length o0), .int (q7_at o0), .int (q7_from o0), .int (q7_kind o0), .int (q7_number o0), .int (q7_wrong o0), .ref a0_now, .ref a0_made, .ref a0_history, .ref a0_saved, .int (q7_entries o0), .int (q7_isSaved o0), .ref a0_closed, .ref a0_faces, .ref a0_rankOf, .ref a0_placeOf, .int (q7_faceMany o0), .int (q7_isLaid o0), .ref a0_counted, .ref a0_steps, .ref a0_onto, .ref a0_goes, .int (q7_found o0), .int (q7_images o0), .ref a0_firstImage, .int (q7_gathered o0)])), (a0_now, .inl (zI Z, 12, .inl (q7_now o0))), (a0_closed, .inl (zI Z, 256, .inl (q7_closed o0))), (a0_faces, .inl (zI Z, 256, .inl (q7_faces o0))), (a0_rankOf, .inl (zI Z, 256, .inl (q7_rankOf o0))), (a0_placeOf, .inl (zI Z, 256, .inl (q7_placeOf o0)))] res.1 [(a0, .inr (7, [.int (q7_thrown res.2), .ref a0_buffer, .int (q7_length o0), .int (q7_at o0), .int (q7_from o0), .int (q7_kind o0), .int (q7_number o0), .int (q7_wrong o0), .ref a0_now, .ref a0_made, .ref a0_history, .ref a0_saved, .int (q7_entries o0), .int (q7_isSaved o0), .ref a0_closed, .ref a0_faces, .ref a0_rankOf, .ref a0_placeOf, .int (q7_faceMany res.2), .int (q7_isLaid res.2), .ref a0_counted, .ref a0_steps, .ref a0_onto, .ref a0_goes, .int (q7_found o0), .int (q7_images o0), .ref a0_firstImage, .int (q7_gathered o0)])), (a0_now, .inl (zI Z, 12, .inl (q7_now o0))), (a0_closed, .inl (zI Z, 256, .inl (q7_closed res.2))), (a0_faces, .inl (zI Z, 256, .inl (q7_faces res.2))), (a0_rankOf, .inl (zI Z, 256, .inl (q7_rankOf res.2))), (a0_placeOf, .inl (zI Z, 256, .inl (q7_placeOf res.2)))] := by
  refine MI_of (by decide +kernel) (Nat.le_of_ble_eq_true rfl) (fun {p e s m args below meth c} A R hR Q hQ C hr hlk => ?_)
  unfold fX7_cover at h
  refine g_lv [0, 1, 2, 3] [(0, .ref a0), (1, .int p1), (2, .int p2), (3, .int p3)] rfl ?_
  refine g_aload_n C dX7_cover_0 rfl 0 rfl ?_
  refine g_iconst C 0 dX7_cover_1 (by decide) ?_
  refine g_put C 7 52 gin7 tyX7 tyX7_ok nmX7 0 rfl rfl 0 (by decide) mw_5_85 rfl rfl (ty := .int) (by decide +kernel) rfl rfl (Nat.le_of_ble_eq_true rfl) [(a0, .inr (7, [.int 0, .ref a0_buffer, .int (q7_length o0), .int (q7_at o0), .int (q7_from o0), .int (q7_kind o0), .int (q7_number o0), .int (q7_wrong o0), .ref a0_now, .ref a0_made, .ref a0_history, .ref a0_saved, .int (q7_entries o0), .int (q7_isSaved o0), .ref a0_closed, .ref a0_faces, .ref a0_rankOf, .ref a0_placeOf, .int (q7_faceMany o0), .int (q7_isLaid o0), .ref a0_counted, .ref a0_steps, .ref a0_onto, .ref a0_goes, .int (q7_found o0), .int (q7_images o0), .ref a0_firstImage, .int (q7_gathered o0)])), (a0_now, .inl (zI Z, 12, .inl (q7_now o0))), (a0_closed, .inl (zI Z, 256, .inl (q7_closed o0))), (a0_faces, .inl (zI Z, 256, .inl (q7_faces o0))), (a0_rankOf, .inl (zI Z, 256, .inl (q7_rankOf o0))), (a0_placeOf, .inl (zI Z, 256, .inl (q7_placeOf o0)))] rfl dX7_cover_2 ?_
  refine g_aload_n C dX7_cover_5 rfl 0 rfl ?_
  refine g_aload_n C dX7_cover_6 rfl 0 rfl ?_
  refine g_iload_n C dX7_cover_7 rfl 1 rfl ?_
  obtain ⟨r1, hr2, h⟩ := bd_of h
  refine g_callVi C (kX7_isFace l Z a0 a0_buffer a0_now a0_made a0_history a0_saved a0_closed a0_faces a0_rankOf a0_placeOf a0_counted a0_steps a0_onto a0_goes a0_firstImage (s7_thrown o0 0) p1 r1 hr2) 0 rfl (ci := 7) rfl rfl myX7_isFace 257 mw_6_174 rfl [0, 1, 2, 3, 4, 5] [] [0, 1, 2, 3, 4, 5] (wr := []) rfl rfl (by decide) (by decide) (by decide) [(a0, .inr (7, [.int 0, .ref a0_buffer, .int (q7_length o0), .int (q7_at o0), .int (q7_from o0), .int (q7_kind o0), .int (q7_number o0), .int (q7_wrong o0), .ref a0_now, .ref a0_made, .ref a0_history, .ref a0_saved, .int (q7_entries o0), .int (q7_isSaved o0), .ref a0_closed, .ref a0_faces, .ref a0_rankOf, .ref a0_placeOf, .int (q7_faceMany r1.2), .int (q7_isLaid r1.2), .ref a0_counted, .ref a0_steps, .ref a0_onto, .ref a0_goes, .int (q7_found o0), .int (q7_images o0), .ref a0_firstImage, .int (q7_gathered o0)])), (a0_now, .inl (zI Z, 12, .inl (q7_now o0))), (a0_closed, .inl (zI Z, 256, .inl (q7_closed r1.2))), (a0_faces, .inl (zI Z, 256, .inl (q7_faces r1.2))), (a0_rankOf, .inl (zI Z, 256, .inl (q7_rankOf r1.2))), (a0_placeOf, .inl (zI Z, 256, .inl (q7_placeOf r1.2)))] rfl (by decide) (Nat.le_of_ble_eq_true rfl) (by rw [hR]; exact Nat.le_of_ble_eq_true rfl) (by rw [hR]; exact Nat.le_of_ble_eq_true rfl) ⟨by rw [hR]; exact Nat.le_of_ble_eq_true rfl, by rw [hR]; exact Nat.le_of_ble_eq_true rfl⟩ rfl dX7_cover_8 ?_
  refine g_iconst C 1 dX7_cover_11 (by decide) ?_
  obtain ⟨r3, hr4, h⟩ := bd_of h
  refine g_callVi C (kX7_fails l Z a0 a0_buffer a0_now a0_made a0_history a0_saved a0_closed a0_faces a0_rankOf a0_placeOf a0_counted a0_steps a0_onto a0_goes a0_firstImage (s7_isLaid (s7_faceMany (s7_placeOf (s7_rankOf (s7_faces (s7_closed (s7_thrown o0 0) (q7_closed r1.2)) (q7_faces r1.2)) (q7_rankOf r1.2)) (q7_placeOf r1.2)) (q7_faceMany r1.2)) (q7_isLaid r1.2)) r1.1 1 r3 hr4) 0 rfl (ci := 7) rfl rfl myX7_fails 63 mw_5_181 rfl [0] [1, 2, 3, 4, 5] [5, 0, 1, 2, 3, 4] (wr := [(a0_now, .inl (zI Z, 12, .inl (q7_now o0))), (a0_closed, .inl (zI Z, 256, .inl (q7_closed r1.2))), (a0_faces, .inl (zI Z, 256, .inl (q7_faces r1.2))), (a0_rankOf, .inl (zI Z, 256, .inl (q7_rankOf r1.2))), (a0_placeOf, .inl (zI Z, 256, .inl (q7_placeOf r1.2)))]) rfl rfl (by decide) (by decide) (by decide) [(a0, .inr (7, [.int (q7_thrown r3.2), .ref a0_buffer, .int (q7_length o0), .int (q7_at o0), .int (q7_from o0), .int (q7_kind o0), .int (q7_number o0), .int (q7_wrong o0), .ref a0_now, .ref a0_made, .ref a0_history, .ref a0_saved, .int (q7_entries o0), .int (q7_isSaved o0), .ref a0_closed, .ref a0_faces, .ref a0_rankOf, .ref a0_placeOf, .int (q7_faceMany r1.2), .int (q7_isLaid r1.2), .ref a0_counted, .ref a0_steps, .ref a0_onto, .ref a0_goes, .int (q7_found o0), .int (q7_images o0), .ref a0_firstImage, .int (q7_gathered o0)])), (a0_now, .inl (zI Z, 12, .inl (q7_now o0))), (a0_closed, .inl (zI Z, 256, .inl (q7_closed r1.2))), (a0_faces, .inl (zI Z, 256, .inl (q7_faces r1.2))), (a0_rankOf, .inl (zI Z, 256, .inl (q7_rankOf r1.2))), (a0_placeOf, .inl (zI Z, 256, .inl (q7_placeOf r1.2)))] rfl (by decide) (Nat.le_of_ble_eq_true rfl) (by rw [hR]; exact Nat.le_of_ble_eq_true rfl) (by rw [hR]; exact Nat.le_of_ble_eq_true rfl) ⟨by rw [hR]; exact Nat.le_of_ble_eq_true rfl, by rw [hR]; exact Nat.le_of_ble_eq_true rfl⟩ rfl dX7_cover_12 ?_
  refine g_if_eq C 20 dX7_cover_15 (by decide) (fun c5 => ?_) (fun c5 => ?_)
  · replace h := it_t c5 h
    refine g_iload_n C dX7_cover_20 rfl 3 rfl ?_
    refine g_istore C dX7_cover_21 (by decide) [(4, .int p3), (0, .ref a0), (1, .int p1), (2, .int p2), (3, .int p3)] rfl ?_
    refine g_iconst C 0 dX7_cover_23 (by decide) ?_
    refine g_istore C dX7_cover_24 (by decide) [(5, .int 0), (4, .int p3), (0, .ref a0), (1, .int p1), (2, .int p2), (3, .int p3)] rfl ?_
    refine g_lv [2, 3, 4, 5, 1, 0] [(0, .ref a0), (1, .int p1), (2, .int p2), (3, .int p3), (4, .int p3), (5, .int 0)] rfl ?_
    refine g_loop (lvf := fun v6 => [(0, .ref a0), (1, .int p1), (2, .int p2), (3, .int p3), (4, .int v6.1), (5, .int v6.2)]) (wsf := fun v6 => [(a0, .inr (7, [.int (q7_thrown r3.2), .ref a0_buffer, .int (q7_length o0), .int (q7_at o0), .int (q7_from o0), .int (q7_kind o0), .int (q7_number o0), .int (q7_wrong o0), .ref a0_now, .ref a0_made, .ref a0_history, .ref a0_saved, .int (q7_entries o0), .int (q7_isSaved o0), .ref a0_closed, .ref a0_faces, .ref a0_rankOf, .ref a0_placeOf, .int (q7_faceMany r1.2), .int (q7_isLaid r1.2), .ref a0_counted, .ref a0_steps, .ref a0_onto, .ref a0_goes, .int (q7_found o0), .int (q7_images o0), .ref a0_firstImage, .int (q7_gathered o0)])), (a0_now, .inl (zI Z, 12, .inl (q7_now o0))), (a0_closed, .inl (zI Z, 256, .inl (q7_closed r1.2))), (a0_faces, .inl (zI Z, 256, .inl (q7_faces r1.2))), (a0_rankOf, .inl (zI Z, 256, .inl (q7_rankOf r1.2))), (a0_placeOf, .inl (zI Z, 256, .inl (q7_placeOf r1.2)))]) h (fun v6 y1 h hk1 hx1 => ?_)
    refine g_eq (lv1 := [(0, .ref a0), (1, .int p1), (2, .int p2), (3, .int p3), (4, .int v6.1), (5, .int v6.2)]) (st1 := []) (ws1 := [(a0, .inr (7, [.int (q7_thrown r3.2), .ref a0_buffer, .int (q7_length o0), .int (q7_at o0), .int (q7_from o0), .int (q7_kind o0), .int (q7_number o0), .int (q7_wrong o0), .ref a0_now, .ref a0_made, .ref a0_history, .ref a0_saved, .int (q7_entries o0), .int (q7_isSaved o0), .ref a0_closed, .ref a0_faces, .ref a0_rankOf, .ref a0_placeOf, .int (q7_faceMany r1.2), .int (q7_isLaid r1.2), .ref a0_counted, .ref a0_steps, .ref a0_onto, .ref a0_goes, .int (q7_found o0), .int (q7_images o0), .ref a0_firstImage, .int (q7_gathered o0)])), (a0_now, .inl (zI Z, 12, .inl (q7_now o0))), (a0_closed, .inl (zI Z, 256, .inl (q7_closed r1.2))), (a0_faces, .inl (zI Z, 256, .inl (q7_faces r1.2))), (a0_rankOf, .inl (zI Z, 256, .inl (q7_rankOf r1.2))), (a0_placeOf, .inl (zI Z, 256, .inl (q7_placeOf r1.2)))]) rfl rfl rfl rfl ?_
    unfold fX7_cover_L26 at h
    refine g_iload C dX7_cover_26 5 rfl ?_
    refine g_aload_n C dX7_cover_28 rfl 0 rfl ?_
    refine g_get C 7 214 gin7 0 rfl rfl 18 (by decide) mw_5_103 rfl rfl dX7_cover_29 ?_
    refine g_icmp_ge C 83 dX7_cover_32 (by decide) (fun c7 => ?_) (fun c7 => ?_)
    · replace h := it_t c7 h
      obtain ⟨r8, h, hy⟩ := ex_of h
      rw [hx1 r8 hy] at h
      refine g_aload_n C dX7_cover_83 rfl 0 rfl ?_
      refine g_iconst C 1 dX7_cover_84 (by decide) ?_
      refine g_put C 7 52 gin7 tyX7 tyX7_ok nmX7 0 rfl rfl 0 (by decide) mw_5_85 rfl rfl (ty := .int) (by decide +kernel) rfl rfl (Nat.le_of_ble_eq_true rfl) [(a0, .inr (7, [.int 1, .ref a0_buffer, .int (q7_length o0), .int (q7_at o0), .int (q7_from o0), .int (q7_kind o0), .int (q7_number o0), .int (q7_wrong o0), .ref a0_now, .ref a0_made, .ref a0_history, .ref a0_saved, .int (q7_entries o0), .int (q7_isSaved o0), .ref a0_closed, .ref a0_faces, .ref a0_rankOf, .ref a0_placeOf, .int (q7_faceMany r1.2), .int (q7_isLaid r1.2), .ref a0_counted, .ref a0_steps, .ref a0_onto, .ref a0_goes, .int (q7_found o0), .int (q7_images o0), .ref a0_firstImage, .int (q7_gathered o0)])), (a0_now, .inl (zI Z, 12, .inl (q7_now o0))), (a0_closed, .inl (zI Z, 256, .inl (q7_closed r1.2))), (a0_faces, .inl (zI Z, 256, .inl (q7_faces r1.2))), (a0_rankOf, .inl (zI Z, 256, .inl (q7_rankOf r1.2))), (a0_placeOf, .inl (zI Z, 256, .inl (q7_placeOf r1.2)))] rfl dX7_cover_85 ?_
      refine g_iconst C 0 dX7_cover_88 (by decide) ?_
      obtain rfl := Option.some.inj h
      subst hQ
      exact g_iret C rfl hr hlk dX7_cover_89 [0, 1, 2, 3, 4, 5] rfl (by decide)
    · replace h := it_f c7 h
      refine g_iload_n C dX7_cover_35 rfl 3 rfl ?_
      refine g_if_lt C 83 dX7_cover_36 (by decide) (fun c9 => ?_) (fun c9 => ?_)
      · replace h := it_t c9 h
        obtain ⟨r10, h, hy⟩ := ex_of h
        rw [hx1 r10 hy] at h
        refine g_aload_n C dX7_cover_83 rfl 0 rfl ?_
        refine g_iconst C 1 dX7_cover_84 (by decide) ?_
        refine g_put C 7 52 gin7 tyX7 tyX7_ok nmX7 0 rfl rfl 0 (by decide) mw_5_85 rfl rfl (ty := .int) (by decide +kernel) rfl rfl (Nat.le_of_ble_eq_true rfl) [(a0, .inr (7, [.int 1, .ref a0_buffer, .int (q7_length o0), .int (q7_at o0), .int (q7_from o0), .int (q7_kind o0), .int (q7_number o0), .int (q7_wrong o0), .ref a0_now, .ref a0_made, .ref a0_history, .ref a0_saved, .int (q7_entries o0), .int (q7_isSaved o0), .ref a0_closed, .ref a0_faces, .ref a0_rankOf, .ref a0_placeOf, .int (q7_faceMany r1.2), .int (q7_isLaid r1.2), .ref a0_counted, .ref a0_steps, .ref a0_onto, .ref a0_goes, .int (q7_found o0), .int (q7_images o0), .ref a0_firstImage, .int (q7_gathered o0)])), (a0_now, .inl (zI Z, 12, .inl (q7_now o0))), (a0_closed, .inl (zI Z, 256, .inl (q7_closed r1.2))), (a0_faces, .inl (zI Z, 256, .inl (q7_faces r1.2))), (a0_rankOf, .inl (zI Z, 256, .inl (q7_rankOf r1.2))), (a0_placeOf, .inl (zI Z, 256, .inl (q7_placeOf r1.2)))] rfl dX7_cover_85 ?_
        refine g_iconst C 0 dX7_cover_88 (by decide) ?_
        obtain rfl := Option.some.inj h
        subst hQ
        exact g_iret C rfl hr hlk dX7_cover_89 [0, 1, 2, 3, 4, 5] rfl (by decide)
      · replace h := it_f c9 h
        refine g_iload_n C dX7_cover_39 rfl 2 rfl ?_
        refine g_if_eq C 56 dX7_cover_40 (by decide) (fun c11 => ?_) (fun c11 => ?_)
        · replace h := it_t c11 h
          refine g_aload_n C dX7_cover_56 rfl 0 rfl ?_
          refine g_iload_n C dX7_cover_57 rfl 1 rfl ?_
          refine g_iload C dX7_cover_58 5 rfl ?_
          obtain ⟨r12, hr13, h⟩ := bd_of h
          refine g_callVi C (kX7_covers l Z a0 a0_buffer a0_now a0_made a0_history a0_saved a0_closed a0_faces a0_rankOf a0_placeOf a0_counted a0_steps a0_onto a0_goes a0_firstImage (s7_isLaid (s7_faceMany (s7_placeOf (s7_rankOf (s7_faces (s7_closed (s7_thrown o0 (q7_thrown r3.2)) (q7_closed r1.2)) (q7_faces r1.2)) (q7_rankOf r1.2)) (q7_placeOf r1.2)) (q7_faceMany r1.2)) (q7_isLaid r1.2)) p1 v6.2 r12 hr13) 0 rfl (ci := 7) rfl rfl myX7_covers 241 mw_6_152 rfl [0, 2, 3] [1, 4, 5] [3, 0, 4, 5, 1, 2] (wr := [(a0_now, .inl (zI Z, 12, .inl (q7_now o0))), (a0_rankOf, .inl (zI Z, 256, .inl (q7_rankOf r1.2))), (a0_placeOf, .inl (zI Z, 256, .inl (q7_placeOf r1.2)))]) rfl rfl (by decide) (by decide) (by decide) [(a0, .inr (7, [.int (q7_thrown r3.2), .ref a0_buffer, .int (q7_length o0), .int (q7_at o0), .int (q7_from o0), .int (q7_kind o0), .int (q7_number o0), .int (q7_wrong o0), .ref a0_now, .ref a0_made, .ref a0_history, .ref a0_saved, .int (q7_entries o0), .int (q7_isSaved o0), .ref a0_closed, .ref a0_faces, .ref a0_rankOf, .ref a0_placeOf, .int (q7_faceMany r1.2), .int (q7_isLaid r1.2), .ref a0_counted, .ref a0_steps, .ref a0_onto, .ref a0_goes, .int (q7_found o0), .int (q7_images o0), .ref a0_firstImage, .int (q7_gathered o0)])), (a0_now, .inl (zI Z, 12, .inl (q7_now o0))), (a0_closed, .inl (zI Z, 256, .inl (q7_closed r1.2))), (a0_faces, .inl (zI Z, 256, .inl (q7_faces r1.2))), (a0_rankOf, .inl (zI Z, 256, .inl (q7_rankOf r1.2))), (a0_placeOf, .inl (zI Z, 256, .inl (q7_placeOf r1.2)))] rfl (by decide) (Nat.le_of_ble_eq_true rfl) (by rw [hR]; exact Nat.le_of_ble_eq_true rfl) (by rw [hR]; exact Nat.le_of_ble_eq_true rfl) ⟨by rw [hR]; exact Nat.le_of_ble_eq_true rfl, by rw [hR]; exact Nat.le_of_ble_eq_true rfl⟩ rfl dX7_cover_60 ?_
          refine g_if_eq C 77 dX7_cover_63 (by decide) (fun c14 => ?_) (fun c14 => ?_)
          · replace h := it_t c14 h
            refine g_iinc C (v6.2 + 1) dX7_cover_77 5 rfl rfl (by decide) [(5, .int (v6.2 + 1)), (0, .ref a0), (1, .int p1), (2, .int p2), (3, .int p3), (4, .int v6.1)] rfl ?_
            refine g_goto C 26 dX7_cover_80 (by decide) ?_
            refine g_lv [1, 2, 3, 4, 5, 0] [(0, .ref a0), (1, .int p1), (2, .int p2), (3, .int p3), (4, .int v6.1), (5, .int (v6.2 + 1))] rfl ?_
            exact hk1 (v6.1, (v6.2 + 1)) (Option.some.inj h).symm
          · replace h := it_f c14 h
            refine g_iload C dX7_cover_66 4 rfl ?_
            refine g_if_ne C 74 dX7_cover_68 (by decide) (fun c15 => ?_) (fun c15 => ?_)
            · replace h := it_f c15 h
              refine g_iinc C (v6.1 + (-1)) dX7_cover_74 4 rfl rfl (by decide) [(4, .int (v6.1 + (-1))), (0, .ref a0), (1, .int p1), (2, .int p2), (3, .int p3), (5, .int v6.2)] rfl ?_
              refine g_iinc C (v6.2 + 1) dX7_cover_77 5 rfl rfl (by decide) [(5, .int (v6.2 + 1)), (4, .int (v6.1 + (-1))), (0, .ref a0), (1, .int p1), (2, .int p2), (3, .int p3)] rfl ?_
              refine g_goto C 26 dX7_cover_80 (by decide) ?_
              refine g_lv [2, 3, 4, 5, 1, 0] [(0, .ref a0), (1, .int p1), (2, .int p2), (3, .int p3), (4, .int (v6.1 + (-1))), (5, .int (v6.2 + 1))] rfl ?_
              have q9 := hk1 ((v6.1 + (-1)), (v6.2 + 1)) (Option.some.inj h).symm
              dsimp only at q9
              exact q9
            · replace h := it_t c15 h
              obtain ⟨r16, h, hy⟩ := ex_of h
              rw [hx1 r16 hy] at h
              refine g_iload C dX7_cover_71 5 rfl ?_
              obtain rfl := Option.some.inj h
              subst hQ
              exact g_iret C rfl hr hlk dX7_cover_73 [0, 1, 2, 3, 4, 5] rfl (by decide)
        · replace h := it_f c11 h
          refine g_aload_n C dX7_cover_43 rfl 0 rfl ?_
          refine g_iload C dX7_cover_44 5 rfl ?_
          refine g_iload_n C dX7_cover_46 rfl 1 rfl ?_
          obtain ⟨r17, hr18, h⟩ := bd_of h
          refine g_callVi C (kX7_covers l Z a0 a0_buffer a0_now a0_made a0_history a0_saved a0_closed a0_faces a0_rankOf a0_placeOf a0_counted a0_steps a0_onto a0_goes a0_firstImage (s7_isLaid (s7_faceMany (s7_placeOf (s7_rankOf (s7_faces (s7_closed (s7_thrown o0 (q7_thrown r3.2)) (q7_closed r1.2)) (q7_faces r1.2)) (q7_rankOf r1.2)) (q7_placeOf r1.2)) (q7_faceMany r1.2)) (q7_isLaid r1.2)) v6.2 p1 r17 hr18) 0 rfl (ci := 7) rfl rfl myX7_covers 241 mw_6_152 rfl [0, 2, 3] [1, 4, 5] [3, 0, 4, 5, 1, 2] (wr := [(a0_now, .inl (zI Z, 12, .inl (q7_now o0))), (a0_rankOf, .inl (zI Z, 256, .inl (q7_rankOf r1.2))), (a0_placeOf, .inl (zI Z, 256, .inl (q7_placeOf r1.2)))]) rfl rfl (by decide) (by decide) (by decide) [(a0, .inr (7, [.int (q7_thrown r3.2), .ref a0_buffer, .int (q7_length o0), .int (q7_at o0), .int (q7_from o0), .int (q7_kind o0), .int (q7_number o0), .int (q7_wrong o0), .ref a0_now, .ref a0_made, .ref a0_history, .ref a0_saved, .int (q7_entries o0), .int (q7_isSaved o0), .ref a0_closed, .ref a0_faces, .ref a0_rankOf, .ref a0_placeOf, .int (q7_faceMany r1.2), .int (q7_isLaid r1.2), .ref a0_counted, .ref a0_steps, .ref a0_onto, .ref a0_goes, .int (q7_found o0), .int (q7_images o0), .ref a0_firstImage, .int (q7_gathered o0)])), (a0_now, .inl (zI Z, 12, .inl (q7_now o0))), (a0_closed, .inl (zI Z, 256, .inl (q7_closed r1.2))), (a0_faces, .inl (zI Z, 256, .inl (q7_faces r1.2))), (a0_rankOf, .inl (zI Z, 256, .inl (q7_rankOf r1.2))), (a0_placeOf, .inl (zI Z, 256, .inl (q7_placeOf r1.2)))] rfl (by decide) (Nat.le_of_ble_eq_true rfl) (by rw [hR]; exact Nat.le_of_ble_eq_true rfl) (by rw [hR]; exact Nat.le_of_ble_eq_true rfl) ⟨by rw [hR]; exact Nat.le_of_ble_eq_true rfl, by rw [hR]; exact Nat.le_of_ble_eq_true rfl⟩ rfl dX7_cover_47 ?_
          refine g_if_eq C 77 dX7_cover_50 (by decide) (fun c19 => ?_) (fun c19 => ?_)
          · replace h := it_t c19 h
            refine g_iinc C (v6.2 + 1) dX7_cover_77 5 rfl rfl (by decide) [(5, .int (v6.2 + 1)), (0, .ref a0), (1, .int p1), (2, .int p2), (3, .int p3), (4, .int v6.1)] rfl ?_
            refine g_goto C 26 dX7_cover_80 (by decide) ?_
            refine g_lv [1, 2, 3, 4, 5, 0] [(0, .ref a0), (1, .int p1), (2, .int p2), (3, .int p3), (4, .int v6.1), (5, .int (v6.2 + 1))] rfl ?_
            exact hk1 (v6.1, (v6.2 + 1)) (Option.some.inj h).symm
          · replace h := it_f c19 h
            refine g_goto C 66 dX7_cover_53 (by decide) ?_
            refine g_iload C dX7_cover_66 4 rfl ?_
            refine g_if_ne C 74 dX7_cover_68 (by decide) (fun c20 => ?_) (fun c20 => ?_)
            · replace h := it_f c20 h
              refine g_iinc C (v6.1 + (-1)) dX7_cover_74 4 rfl rfl (by decide) [(4, .int (v6.1 + (-1))), (0, .ref a0), (1, .int p1), (2, .int p2), (3, .int p3), (5, .int v6.2)] rfl ?_
              refine g_iinc C (v6.2 + 1) dX7_cover_77 5 rfl rfl (by decide) [(5, .int (v6.2 + 1)), (4, .int (v6.1 + (-1))), (0, .ref a0), (1, .int p1), (2, .int p2), (3, .int p3)] rfl ?_
              refine g_goto C 26 dX7_cover_80 (by decide) ?_
              refine g_lv [2, 3, 4, 5, 1, 0] [(0, .ref a0), (1, .int p1), (2, .int p2), (3, .int p3), (4, .int (v6.1 + (-1))), (5, .int (v6.2 + 1))] rfl ?_
              have q9 := hk1 ((v6.1 + (-1)), (v6.2 + 1)) (Option.some.inj h).symm
              dsimp only at q9
              exact q9
            · replace h := it_t c20 h
              obtain ⟨r21, h, hy⟩ := ex_of h
              rw [hx1 r21 hy] at h
              refine g_iload C dX7_cover_71 5 rfl ?_
              obtain rfl := Option.some.inj h
              subst hQ
              exact g_iret C rfl hr hlk dX7_cover_73 [0, 1, 2, 3, 4, 5] rfl (by decide)
  · replace h := it_f c5 h
    refine g_iconst C 0 dX7_cover_18 (by decide) ?_
    obtain rfl := Option.some.inj h
    subst hQ
    exact g_iret C rfl hr hlk dX7_cover_19 [0, 1, 2, 3, 4, 5] rfl (by decide)
def fX7_failsFaces_J22 (o0 : OX7) (x3 : Int32) (x4 : Int32) (x5 : Int32) (x6 : Nat → Int32) (x7 : Nat → Int32) (x8 : Nat → Int32) (x9 : Nat → Int32) : Option (Int32 × OX7) :=
  (fX7_fails (s7_isLaid (s7_faceMany (s7_placeOf (s7_rankOf (s7_faces (s7_closed o0 x6) x7) x8) x9) x4) x5) x3 1).bind fun r10 =>
  (ck (is01 r10.1) (some (r10.1, (s7_isLaid (s7_faceMany (s7_placeOf (s7_rankOf (s7_faces (s7_closed (s7_thrown o0 (q7_thrown r10.2)) x6) x7) x8) x9) x4) x5))))
def fX7_failsFaces_J21 (o0 : OX7) (x12 : Int32) (x13 : Int32) (x14 : Nat → Int32) (x15 : Nat → Int32) (x16 : Nat → Int32) (x17 : Nat → Int32) : Option (Int32 × OX7) :=
  fX7_failsFaces_J22 o0 0 x12 x13 x14 x15 x16 x17
def fX7_failsFaces (o0 : OX7) (p1 : Int32) (p2 : Int32) : Option (Int32 × OX7) :=
  (fX7_isFace o0 p1).bind fun r1 =>
  (if r1.1 = 0 then (fX7_failsFaces_J21 o0 (q7_faceMany r1.2) (q7_isLaid r1.2) (q7_closed r1.2) (q7_faces r1.2) (q7_rankOf r1.2) (q7_placeOf r1.2))
  else ((fX7_isFace (s7_isLaid (s7_faceMany (s7_placeOf (s7_rankOf (s7_faces (s7_closed o0 (q7_closed r1.2)) (q7_faces r1.2)) (q7_rankOf r1.2)) (q7_placeOf r1.2)) (q7_faceMany r1.2)) (q7_isLaid r1.2)) p2).bind fun r19 =>
  (if r19.1 = 0 then (fX7_failsFaces_J21 o0 (q7_faceMany r19.2) (q7_isLaid r19.2) (q7_closed r19.2) (q7_faces r19.2) (q7_rankOf r19.2) (q7_placeOf r19.2))
  else (fX7_failsFaces_J22 o0 1 (q7_faceMany r19.2) (q7_isLaid r19.2) (q7_closed r19.2) (q7_faces r19.2) (q7_rankOf r19.2) (q7_placeOf r19.2)))))
theorem myX7_failsFaces : MYv yX7_failsFaces cX7_failsFaces 3 (some .boolean) 2 := ⟨mw_7_11, ms_70, mw_7_12, mw_1_9, ⟨by decide +kernel, by decide +kernel⟩, by decide +kernel⟩
set_option maxRecDepth 100000 in
set_option maxHeartbeats 4000000 in
theorem kX7_failsFaces (l : Launch) (Z : GZ) (a0 a0_buffer a0_now a0_made a0_history a0_saved a0_closed a0_faces a0_rankOf a0_placeOf a0_counted a0_steps a0_onto a0_goes a0_firstImage : Nat) (o0 : OX7) (p1 : Int32) (p2 : Int32) (res : Int32 × OX7) (h : fX7_failsFaces o0 p1 p2 = some res) : MI l Z yX7_failsFaces cX7_failsFaces 3 .boolean 5 110 [.ref a0, .int p1, .int p2] [(a0, .inr (7, [.int (q7_thrown o0), .ref a0_buffer, .int (q7_length o0), .int (q7_at o0), .int (q7_from o0), .int (q7_kind o0), .int (q7_number o0), .int (q7_wrong o0), .ref a0_now, .ref a0_made, .ref a0_history, .ref a0_saved, .int (q7_entries o0), .int (q7_isSaved o0), .ref a0_closed, .ref a0_faces, .ref a0_rankOf, .ref a0_placeOf, .int (q7_faceMany o0), .int (q7_isLaid o0), .ref a0_counted, .ref a0_steps, .ref a0_onto, .ref a0_goes, .int (q7_found o0), .int (q7_images o0), .ref a0_firstImage, .int (q7_gathered o0)])), (a0_now, .inl (zI Z, 12, .inl (q7_now o0))), (a0_closed, .inl (zI Z, 256, .inl (q7_closed o0))), (a0_faces, .inl (zI Z, 256, .inl (q7_faces o0))), (a0_rankOf, .inl (zI Z, 256, .inl (q7_rankOf o0))), (a0_placeOf, .inl (zI Z, 256, .inl (q7_placeOf o0)))] res.1 [(a0, .inr (7, [.int (q7_thrown res.2), .ref a0_buffer, .int (q7_length o0), .int (q7_at o0), .int (q7_from o0), .int (q7_kind o0), .int (q7_number o0), .int (q7_wrong o0), .ref a0_now, .ref a0_made, .ref a0_history, .ref a0_saved, .int (q7_entries o0), .int (q7_isSaved o0), .ref a0_closed, .ref a0_faces, .ref a0_rankOf, .ref a0_placeOf, .int (q7_faceMany res.2), .int (q7_isLaid res.2), .ref a0_counted, .ref a0_steps, .ref a0_onto, .ref a0_goes, .int (q7_found o0), .int (q7_images o0), .ref a0_firstImage, .int (q7_gathered o0)])), (a0_now, .inl (zI Z, 12, .inl (q7_now o0))), (a0_closed, .inl (zI Z, 256, .inl (q7_closed res.2))), (a0_faces, .inl (zI Z, 256, .inl (q7_faces res.2))), (a0_rankOf, .inl (zI Z, 256, .inl (q7_rankOf res.2))), (a0_placeOf, .inl (zI Z, 256, .inl (q7_placeOf res.2)))] := by
  refine MI_of (by decide +kernel) (Nat.le_of_ble_eq_true rfl) (fun {p e s m args below meth c} A R hR Q hQ C hr hlk => ?_)
  unfold fX7_failsFaces at h
  refine g_lv [0, 1, 2] [(0, .ref a0), (1, .int p1), (2, .int p2)] rfl ?_
  refine g_aload_n C dX7_failsFaces_0 rfl 0 rfl ?_
  refine g_aload_n C dX7_failsFaces_1 rfl 0 rfl ?_
  refine g_iload_n C dX7_failsFaces_2 rfl 1 rfl ?_
  obtain ⟨r1, hr2, h⟩ := bd_of h
  refine g_callVi C (kX7_isFace l Z a0 a0_buffer a0_now a0_made a0_history a0_saved a0_closed a0_faces a0_rankOf a0_placeOf a0_counted a0_steps a0_onto a0_goes a0_firstImage o0 p1 r1 hr2) 0 rfl (ci := 7) rfl rfl myX7_isFace 257 mw_6_174 rfl [0, 1, 2, 3, 4, 5] [] [0, 1, 2, 3, 4, 5] (wr := []) rfl rfl (by decide) (by decide) (by decide) [(a0, .inr (7, [.int (q7_thrown o0), .ref a0_buffer, .int (q7_length o0), .int (q7_at o0), .int (q7_from o0), .int (q7_kind o0), .int (q7_number o0), .int (q7_wrong o0), .ref a0_now, .ref a0_made, .ref a0_history, .ref a0_saved, .int (q7_entries o0), .int (q7_isSaved o0), .ref a0_closed, .ref a0_faces, .ref a0_rankOf, .ref a0_placeOf, .int (q7_faceMany r1.2), .int (q7_isLaid r1.2), .ref a0_counted, .ref a0_steps, .ref a0_onto, .ref a0_goes, .int (q7_found o0), .int (q7_images o0), .ref a0_firstImage, .int (q7_gathered o0)])), (a0_now, .inl (zI Z, 12, .inl (q7_now o0))), (a0_closed, .inl (zI Z, 256, .inl (q7_closed r1.2))), (a0_faces, .inl (zI Z, 256, .inl (q7_faces r1.2))), (a0_rankOf, .inl (zI Z, 256, .inl (q7_rankOf r1.2))), (a0_placeOf, .inl (zI Z, 256, .inl (q7_placeOf r1.2)))] rfl (by decide) (Nat.le_of_ble_eq_true rfl) (by rw [hR]; exact Nat.le_of_ble_eq_true rfl) (by rw [hR]; exact Nat.le_of_ble_eq_true rfl) ⟨by rw [hR]; exact Nat.le_of_ble_eq_true rfl, by rw [hR]; exact Nat.le_of_ble_eq_true rfl⟩ rfl dX7_failsFaces_3 ?_
  have hj22 : ∀ (x3 : Int32) (x4 : Int32) (x5 : Int32) (x6 : Nat → Int32) (x7 : Nat → Int32) (x8 : Nat → Int32) (x9 : Nat → Int32), fX7_failsFaces_J22 o0 x3 x4 x5 x6 x7 x8 x9 = some res → Gw p l e R s m args below meth c 3 Z A Q 0 0 22 [] [.int x3, .ref a0] [(a0, .inr (7, [.int (q7_thrown o0), .ref a0_buffer, .int (q7_length o0), .int (q7_at o0), .int (q7_from o0), .int (q7_kind o0), .int (q7_number o0), .int (q7_wrong o0), .ref a0_now, .ref a0_made, .ref a0_history, .ref a0_saved, .int (q7_entries o0), .int (q7_isSaved o0), .ref a0_closed, .ref a0_faces, .ref a0_rankOf, .ref a0_placeOf, .int x4, .int x5, .ref a0_counted, .ref a0_steps, .ref a0_onto, .ref a0_goes, .int (q7_found o0), .int (q7_images o0), .ref a0_firstImage, .int (q7_gathered o0)])), (a0_now, .inl (zI Z, 12, .inl (q7_now o0))), (a0_closed, .inl (zI Z, 256, .inl x6)), (a0_faces, .inl (zI Z, 256, .inl x7)), (a0_rankOf, .inl (zI Z, 256, .inl x8)), (a0_placeOf, .inl (zI Z, 256, .inl x9))] := by
    intro x3 x4 x5 x6 x7 x8 x9 h
    unfold fX7_failsFaces_J22 at h
    refine g_iconst C 1 dX7_failsFaces_22 (by decide) ?_
    obtain ⟨r10, hr11, h⟩ := bd_of h
    refine g_callVi C (kX7_fails l Z a0 a0_buffer a0_now a0_made a0_history a0_saved a0_closed a0_faces a0_rankOf a0_placeOf a0_counted a0_steps a0_onto a0_goes a0_firstImage (s7_isLaid (s7_faceMany (s7_placeOf (s7_rankOf (s7_faces (s7_closed o0 x6) x7) x8) x9) x4) x5) x3 1 r10 hr11) 0 rfl (ci := 7) rfl rfl myX7_fails 63 mw_5_181 rfl [0] [1, 2, 3, 4, 5] [5, 0, 1, 2, 3, 4] (wr := [(a0_now, .inl (zI Z, 12, .inl (q7_now o0))), (a0_closed, .inl (zI Z, 256, .inl x6)), (a0_faces, .inl (zI Z, 256, .inl x7)), (a0_rankOf, .inl (zI Z, 256, .inl x8)), (a0_placeOf, .inl (zI Z, 256, .inl x9))]) rfl rfl (by decide) (by decide) (by decide) [(a0, .inr (7, [.int (q7_thrown r10.2), .ref a0_buffer, .int (q7_length o0), .int (q7_at o0), .int (q7_from o0), .int (q7_kind o0), .int (q7_number o0), .int (q7_wrong o0), .ref a0_now, .ref a0_made, .ref a0_history, .ref a0_saved, .int (q7_entries o0), .int (q7_isSaved o0), .ref a0_closed, .ref a0_faces, .ref a0_rankOf, .ref a0_placeOf, .int x4, .int x5, .ref a0_counted, .ref a0_steps, .ref a0_onto, .ref a0_goes, .int (q7_found o0), .int (q7_images o0), .ref a0_firstImage, .int (q7_gathered o0)])), (a0_now, .inl (zI Z, 12, .inl (q7_now o0))), (a0_closed, .inl (zI Z, 256, .inl x6)), (a0_faces, .inl (zI Z, 256, .inl x7)), (a0_rankOf, .inl (zI Z, 256, .inl x8)), (a0_placeOf, .inl (zI Z, 256, .inl x9))] rfl (by decide) (Nat.le_of_ble_eq_true rfl) (by rw [hR]; exact Nat.le_of_ble_eq_true rfl) (by rw [hR]; exact Nat.le_of_ble_eq_true rfl) ⟨by rw [hR]; exact Nat.le_of_ble_eq_true rfl, by rw [hR]; exact Nat.le_of_ble_eq_true rfl⟩ rfl dX7_failsFaces_23 ?_
    obtain ⟨hb, h⟩ := ck_of h
    obtain rfl := Option.some.inj h
    subst hQ
    exact g_zret C rfl (is01_of hb) hr hlk dX7_failsFaces_26 [0, 1, 2, 3, 4, 5] rfl (by decide)
  have hj21 : ∀ (x12 : Int32) (x13 : Int32) (x14 : Nat → Int32) (x15 : Nat → Int32) (x16 : Nat → Int32) (x17 : Nat → Int32), fX7_failsFaces_J21 o0 x12 x13 x14 x15 x16 x17 = some res → Gw p l e R s m args below meth c 3 Z A Q 0 0 21 [] [.ref a0] [(a0, .inr (7, [.int (q7_thrown o0), .ref a0_buffer, .int (q7_length o0), .int (q7_at o0), .int (q7_from o0), .int (q7_kind o0), .int (q7_number o0), .int (q7_wrong o0), .ref a0_now, .ref a0_made, .ref a0_history, .ref a0_saved, .int (q7_entries o0), .int (q7_isSaved o0), .ref a0_closed, .ref a0_faces, .ref a0_rankOf, .ref a0_placeOf, .int x12, .int x13, .ref a0_counted, .ref a0_steps, .ref a0_onto, .ref a0_goes, .int (q7_found o0), .int (q7_images o0), .ref a0_firstImage, .int (q7_gathered o0)])), (a0_now, .inl (zI Z, 12, .inl (q7_now o0))), (a0_closed, .inl (zI Z, 256, .inl x14)), (a0_faces, .inl (zI Z, 256, .inl x15)), (a0_rankOf, .inl (zI Z, 256, .inl x16)), (a0_placeOf, .inl (zI Z, 256, .inl x17))] := by
    intro x12 x13 x14 x15 x16 x17 h
    unfold fX7_failsFaces_J21 at h
    refine g_iconst C 0 dX7_failsFaces_21 (by decide) ?_
    exact hj22 0 x12 x13 x14 x15 x16 x17 h
  refine g_if_eq C 21 dX7_failsFaces_6 (by decide) (fun c18 => ?_) (fun c18 => ?_)
  · replace h := it_t c18 h
    refine g_lv [] [] rfl ?_
    exact hj21 (q7_faceMany r1.2) (q7_isLaid r1.2) (q7_closed r1.2) (q7_faces r1.2) (q7_rankOf r1.2) (q7_placeOf r1.2) h
  · replace h := it_f c18 h
    refine g_aload_n C dX7_failsFaces_9 rfl 0 rfl ?_
    refine g_iload_n C dX7_failsFaces_10 rfl 2 rfl ?_
    obtain ⟨r19, hr20, h⟩ := bd_of h
    refine g_callVi C (kX7_isFace l Z a0 a0_buffer a0_now a0_made a0_history a0_saved a0_closed a0_faces a0_rankOf a0_placeOf a0_counted a0_steps a0_onto a0_goes a0_firstImage (s7_isLaid (s7_faceMany (s7_placeOf (s7_rankOf (s7_faces (s7_closed o0 (q7_closed r1.2)) (q7_faces r1.2)) (q7_rankOf r1.2)) (q7_placeOf r1.2)) (q7_faceMany r1.2)) (q7_isLaid r1.2)) p2 r19 hr20) 0 rfl (ci := 7) rfl rfl myX7_isFace 257 mw_6_174 rfl [0, 1, 2, 3, 4, 5] [] [0, 1, 2, 3, 4, 5] (wr := []) rfl rfl (by decide) (by decide) (by decide) [(a0, .inr (7, [.int (q7_thrown o0), .ref a0_buffer, .int (q7_length o0), .int (q7_at o0), .int (q7_from o0), .int (q7_kind o0), .int (q7_number o0), .int (q7_wrong o0), .ref a0_now, .ref a0_made, .ref a0_history, .ref a0_saved, .int (q7_entries o0), .int (q7_isSaved o0), .ref a0_closed, .ref a0_faces, .ref a0_rankOf, .ref a0_placeOf, .int (q7_faceMany r19.2), .int (q7_isLaid r19.2), .ref a0_counted, .ref a0_steps, .ref a0_onto, .ref a0_goes, .int (q7_found o0), .int (q7_images o0), .ref a0_firstImage, .int (q7_gathered o0)])), (a0_now, .inl (zI Z, 12, .inl (q7_now o0))), (a0_closed, .inl (zI Z, 256, .inl (q7_closed r19.2))), (a0_faces, .inl (zI Z, 256, .inl (q7_faces r19.2))), (a0_rankOf, .inl (zI Z, 256, .inl (q7_rankOf r19.2))), (a0_placeOf, .inl (zI Z, 256, .inl (q7_placeOf r19.2)))] rfl (by decide) (Nat.le_of_ble_eq_true rfl) (by rw [hR]; exact Nat.le_of_ble_eq_true rfl) (by rw [hR]; exact Nat.le_of_ble_eq_true rfl) ⟨by rw [hR]; exact Nat.le_of_ble_eq_true rfl, by rw [hR]; exact Nat.le_of_ble_eq_true rfl⟩ rfl dX7_failsFaces_11 ?_
    refine g_if_eq C 21 dX7_failsFaces_14 (by decide) (fun c21 => ?_) (fun c21 => ?_)
    · replace h := it_t c21 h
      refine g_lv [] [] rfl ?_
      exact hj21 (q7_faceMany r19.2) (q7_isLaid r19.2) (q7_closed r19.2) (q7_faces r19.2) (q7_rankOf r19.2) (q7_placeOf r19.2) h
    · replace h := it_f c21 h
      refine g_iconst C 1 dX7_failsFaces_17 (by decide) ?_
      refine g_goto C 22 dX7_failsFaces_18 (by decide) ?_
      refine g_lv [] [] rfl ?_
      exact hj22 1 (q7_faceMany r19.2) (q7_isLaid r19.2) (q7_closed r19.2) (q7_faces r19.2) (q7_rankOf r19.2) (q7_placeOf r19.2) h
def fX7_join (o0 : OX7) (p1 : Int32) (p2 : Int32) : Option (Int32 × OX7) :=
  (fX7_failsFaces (s7_thrown o0 0) p1 p2).bind fun r1 =>
  (if r1.1 = 0 then (ck (okI p1 256) (ck (okI p2 256) (ck (okI (((q7_faces r1.2) (ix p1)) ||| ((q7_faces r1.2) (ix p2))) 256) (ck (okI ((q7_closed r1.2) (ix (((q7_faces r1.2) (ix p1)) ||| ((q7_faces r1.2) (ix p2))))) 256) (some (((q7_placeOf r1.2) (ix ((q7_closed r1.2) (ix (((q7_faces r1.2) (ix p1)) ||| ((q7_faces r1.2) (ix p2))))))), (s7_isLaid (s7_faceMany (s7_placeOf (s7_rankOf (s7_faces (s7_closed (s7_thrown o0 (q7_thrown r1.2)) (q7_closed r1.2)) (q7_faces r1.2)) (q7_rankOf r1.2)) (q7_placeOf r1.2)) (q7_faceMany r1.2)) (q7_isLaid r1.2))))))))
  else (some (0, (s7_isLaid (s7_faceMany (s7_placeOf (s7_rankOf (s7_faces (s7_closed (s7_thrown o0 (q7_thrown r1.2)) (q7_closed r1.2)) (q7_faces r1.2)) (q7_rankOf r1.2)) (q7_placeOf r1.2)) (q7_faceMany r1.2)) (q7_isLaid r1.2)))))
theorem myX7_join : MYv yX7_join cX7_join 3 (some .int) 2 := ⟨mw_7_6, mw_7_7, mw_7_8, mw_1_9, ⟨by decide +kernel, by decide +kernel⟩, by decide +kernel⟩
set_option maxRecDepth 100000 in
set_option maxHeartbeats 4000000 in
theorem kX7_join (l : Launch) (Z : GZ) (a0 a0_buffer a0_now a0_made a0_history a0_saved a0_closed a0_faces a0_rankOf a0_placeOf a0_counted a0_steps a0_onto a0_goes a0_firstImage : Nat) (o0 : OX7) (p1 : Int32) (p2 : Int32) (res : Int32 × OX7) (h : fX7_join o0 p1 p2 = some res) : MI l Z yX7_join cX7_join 3 .int 6 132 [.ref a0, .int p1, .int p2] [(a0, .inr (7, [.int (q7_thrown o0), .ref a0_buffer, .int (q7_length o0), .int (q7_at o0), .int (q7_from o0), .int (q7_kind o0), .int (q7_number o0), .int (q7_wrong o0), .ref a0_now, .ref a0_made, .ref a0_history, .ref a0_saved, .int (q7_entries o0), .int (q7_isSaved o0), .ref a0_closed, .ref a0_faces, .ref a0_rankOf, .ref a0_placeOf, .int (q7_faceMany o0), .int (q7_isLaid o0), .ref a0_counted, .ref a0_steps, .ref a0_onto, .ref a0_goes, .int (q7_found o0), .int (q7_images o0), .ref a0_firstImage, .int (q7_gathered o0)])), (a0_now, .inl (zI Z, 12, .inl (q7_now o0))), (a0_closed, .inl (zI Z, 256, .inl (q7_closed o0))), (a0_faces, .inl (zI Z, 256, .inl (q7_faces o0))), (a0_rankOf, .inl (zI Z, 256, .inl (q7_rankOf o0))), (a0_placeOf, .inl (zI Z, 256, .inl (q7_placeOf o0)))] res.1 [(a0, .inr (7, [.int (q7_thrown res.2), .ref a0_buffer, .int (q7_length o0), .int (q7_at o0), .int (q7_from o0), .int (q7_kind o0), .int (q7_number o0), .int (q7_wrong o0), .ref a0_now, .ref a0_made, .ref a0_history, .ref a0_saved, .int (q7_entries o0), .int (q7_isSaved o0), .ref a0_closed, .ref a0_faces, .ref a0_rankOf, .ref a0_placeOf, .int (q7_faceMany res.2), .int (q7_isLaid res.2), .ref a0_counted, .ref a0_steps, .ref a0_onto, .ref a0_goes, .int (q7_found o0), .int (q7_images o0), .ref a0_firstImage, .int (q7_gathered o0)])), (a0_now, .inl (zI Z, 12, .inl (q7_now o0))), (a0_closed, .inl (zI Z, 256, .inl (q7_closed res.2))), (a0_faces, .inl (zI Z, 256, .inl (q7_faces res.2))), (a0_rankOf, .inl (zI Z, 256, .inl (q7_rankOf res.2))), (a0_placeOf, .inl (zI Z, 256, .inl (q7_placeOf res.2)))] := by
  refine MI_of (by decide +kernel) (Nat.le_of_ble_eq_true rfl) (fun {p e s m args below meth c} A R hR Q hQ C hr hlk => ?_)
  unfold fX7_join at h
  refine g_lv [0, 1, 2] [(0, .ref a0), (1, .int p1), (2, .int p2)] rfl ?_
  refine g_aload_n C dX7_join_0 rfl 0 rfl ?_
  refine g_iconst C 0 dX7_join_1 (by decide) ?_
  refine g_put C 7 52 gin7 tyX7 tyX7_ok nmX7 0 rfl rfl 0 (by decide) mw_5_85 rfl rfl (ty := .int) (by decide +kernel) rfl rfl (Nat.le_of_ble_eq_true rfl) [(a0, .inr (7, [.int 0, .ref a0_buffer, .int (q7_length o0), .int (q7_at o0), .int (q7_from o0), .int (q7_kind o0), .int (q7_number o0), .int (q7_wrong o0), .ref a0_now, .ref a0_made, .ref a0_history, .ref a0_saved, .int (q7_entries o0), .int (q7_isSaved o0), .ref a0_closed, .ref a0_faces, .ref a0_rankOf, .ref a0_placeOf, .int (q7_faceMany o0), .int (q7_isLaid o0), .ref a0_counted, .ref a0_steps, .ref a0_onto, .ref a0_goes, .int (q7_found o0), .int (q7_images o0), .ref a0_firstImage, .int (q7_gathered o0)])), (a0_now, .inl (zI Z, 12, .inl (q7_now o0))), (a0_closed, .inl (zI Z, 256, .inl (q7_closed o0))), (a0_faces, .inl (zI Z, 256, .inl (q7_faces o0))), (a0_rankOf, .inl (zI Z, 256, .inl (q7_rankOf o0))), (a0_placeOf, .inl (zI Z, 256, .inl (q7_placeOf o0)))] rfl dX7_join_2 ?_
  refine g_aload_n C dX7_join_5 rfl 0 rfl ?_
  refine g_iload_n C dX7_join_6 rfl 1 rfl ?_
  refine g_iload_n C dX7_join_7 rfl 2 rfl ?_
  obtain ⟨r1, hr2, h⟩ := bd_of h
  refine g_callVi C (kX7_failsFaces l Z a0 a0_buffer a0_now a0_made a0_history a0_saved a0_closed a0_faces a0_rankOf a0_placeOf a0_counted a0_steps a0_onto a0_goes a0_firstImage (s7_thrown o0 0) p1 p2 r1 hr2) 0 rfl (ci := 7) rfl rfl myX7_failsFaces 269 mw_7_9 rfl [0, 1, 2, 3, 4, 5] [] [0, 1, 2, 3, 4, 5] (wr := []) rfl rfl (by decide) (by decide) (by decide) [(a0, .inr (7, [.int (q7_thrown r1.2), .ref a0_buffer, .int (q7_length o0), .int (q7_at o0), .int (q7_from o0), .int (q7_kind o0), .int (q7_number o0), .int (q7_wrong o0), .ref a0_now, .ref a0_made, .ref a0_history, .ref a0_saved, .int (q7_entries o0), .int (q7_isSaved o0), .ref a0_closed, .ref a0_faces, .ref a0_rankOf, .ref a0_placeOf, .int (q7_faceMany r1.2), .int (q7_isLaid r1.2), .ref a0_counted, .ref a0_steps, .ref a0_onto, .ref a0_goes, .int (q7_found o0), .int (q7_images o0), .ref a0_firstImage, .int (q7_gathered o0)])), (a0_now, .inl (zI Z, 12, .inl (q7_now o0))), (a0_closed, .inl (zI Z, 256, .inl (q7_closed r1.2))), (a0_faces, .inl (zI Z, 256, .inl (q7_faces r1.2))), (a0_rankOf, .inl (zI Z, 256, .inl (q7_rankOf r1.2))), (a0_placeOf, .inl (zI Z, 256, .inl (q7_placeOf r1.2)))] rfl (by decide) (Nat.le_of_ble_eq_true rfl) (by rw [hR]; exact Nat.le_of_ble_eq_true rfl) (by rw [hR]; exact Nat.le_of_ble_eq_true rfl) ⟨by rw [hR]; exact Nat.le_of_ble_eq_true rfl, by rw [hR]; exact Nat.le_of_ble_eq_true rfl⟩ rfl dX7_join_8 ?_
  refine g_if_eq C 18 dX7_join_11 (by decide) (fun c3 => ?_) (fun c3 => ?_)
  · replace h := it_t c3 h
    refine g_aload_n C dX7_join_18 rfl 0 rfl ?_
    refine g_get C 7 34 gin7 0 rfl rfl 17 (by decide) mw_5_102 rfl rfl dX7_join_19 ?_
    refine g_aload_n C dX7_join_22 rfl 0 rfl ?_
    refine g_get C 7 25 gin7 0 rfl rfl 14 (by decide) mw_5_99 rfl rfl dX7_join_23 ?_
    refine g_aload_n C dX7_join_26 rfl 0 rfl ?_
    refine g_get C 7 28 gin7 0 rfl rfl 15 (by decide) mw_5_100 rfl rfl dX7_join_27 ?_
    refine g_iload_n C dX7_join_30 rfl 1 rfl ?_
    obtain ⟨hi4, h⟩ := ck_of h
    refine g_iald C 3 rfl hi4 dX7_join_31 ?_
    refine g_aload_n C dX7_join_32 rfl 0 rfl ?_
    refine g_get C 7 28 gin7 0 rfl rfl 15 (by decide) mw_5_100 rfl rfl dX7_join_33 ?_
    refine g_iload_n C dX7_join_36 rfl 2 rfl ?_
    obtain ⟨hi5, h⟩ := ck_of h
    refine g_iald C 3 rfl hi5 dX7_join_37 ?_
    refine g_ior C dX7_join_38 ?_
    obtain ⟨hi6, h⟩ := ck_of h
    refine g_iald C 2 rfl hi6 dX7_join_39 ?_
    obtain ⟨hi7, h⟩ := ck_of h
    refine g_iald C 5 rfl hi7 dX7_join_40 ?_
    obtain rfl := Option.some.inj h
    subst hQ
    exact g_iret C rfl hr hlk dX7_join_41 [0, 1, 2, 3, 4, 5] rfl (by decide)
  · replace h := it_f c3 h
    refine g_iconst C 0 dX7_join_14 (by decide) ?_
    refine g_goto C 41 dX7_join_15 (by decide) ?_
    obtain rfl := Option.some.inj h
    subst hQ
    exact g_iret C rfl hr hlk dX7_join_41 [0, 1, 2, 3, 4, 5] rfl (by decide)
def fX7_meet (o0 : OX7) (p1 : Int32) (p2 : Int32) : Option (Int32 × OX7) :=
  (fX7_failsFaces (s7_thrown o0 0) p1 p2).bind fun r1 =>
  (if r1.1 = 0 then (ck (okI p1 256) (ck (okI p2 256) (ck (okI (((q7_faces r1.2) (ix p1)) &&& ((q7_faces r1.2) (ix p2))) 256) (some (((q7_placeOf r1.2) (ix (((q7_faces r1.2) (ix p1)) &&& ((q7_faces r1.2) (ix p2))))), (s7_isLaid (s7_faceMany (s7_placeOf (s7_rankOf (s7_faces (s7_closed (s7_thrown o0 (q7_thrown r1.2)) (q7_closed r1.2)) (q7_faces r1.2)) (q7_rankOf r1.2)) (q7_placeOf r1.2)) (q7_faceMany r1.2)) (q7_isLaid r1.2)))))))
  else (some (0, (s7_isLaid (s7_faceMany (s7_placeOf (s7_rankOf (s7_faces (s7_closed (s7_thrown o0 (q7_thrown r1.2)) (q7_closed r1.2)) (q7_faces r1.2)) (q7_rankOf r1.2)) (q7_placeOf r1.2)) (q7_faceMany r1.2)) (q7_isLaid r1.2)))))
theorem myX7_meet : MYv yX7_meet cX7_meet 3 (some .int) 2 := ⟨mw_7_14, mw_7_15, mw_7_16, mw_1_9, ⟨by decide +kernel, by decide +kernel⟩, by decide +kernel⟩
set_option maxRecDepth 100000 in
set_option maxHeartbeats 4000000 in
theorem kX7_meet (l : Launch) (Z : GZ) (a0 a0_buffer a0_now a0_made a0_history a0_saved a0_closed a0_faces a0_rankOf a0_placeOf a0_counted a0_steps a0_onto a0_goes a0_firstImage : Nat) (o0 : OX7) (p1 : Int32) (p2 : Int32) (res : Int32 × OX7) (h : fX7_meet o0 p1 p2 = some res) : MI l Z yX7_meet cX7_meet 3 .int 6 132 [.ref a0, .int p1, .int p2] [(a0, .inr (7, [.int (q7_thrown o0), .ref a0_buffer, .int (q7_length o0), .int (q7_at o0), .int (q7_from o0), .int (q7_kind o0), .int (q7_number o0), .int (q7_wrong o0), .ref a0_now, .ref a0_made, .ref a0_history, .ref a0_saved, .int (q7_entries o0), .int (q7_isSaved o0), .ref a0_closed, .ref a0_faces, .ref a0_rankOf, .ref a0_placeOf, .int (q7_faceMany o0), .int (q7_isLaid o0), .ref a0_counted, .ref a0_steps, .ref a0_onto, .ref a0_goes, .int (q7_found o0), .int (q7_images o0), .ref a0_firstImage, .int (q7_gathered o0)])), (a0_now, .inl (zI Z, 12, .inl (q7_now o0))), (a0_closed, .inl (zI Z, 256, .inl (q7_closed o0))), (a0_faces, .inl (zI Z, 256, .inl (q7_faces o0))), (a0_rankOf, .inl (zI Z, 256, .inl (q7_rankOf o0))), (a0_placeOf, .inl (zI Z, 256, .inl (q7_placeOf o0)))] res.1 [(a0, .inr (7, [.int (q7_thrown res.2), .ref a0_buffer, .int (q7_length o0), .int (q7_at o0), .int (q7_from o0), .int (q7_kind o0), .int (q7_number o0), .int (q7_wrong o0), .ref a0_now, .ref a0_made, .ref a0_history, .ref a0_saved, .int (q7_entries o0), .int (q7_isSaved o0), .ref a0_closed, .ref a0_faces, .ref a0_rankOf, .ref a0_placeOf, .int (q7_faceMany res.2), .int (q7_isLaid res.2), .ref a0_counted, .ref a0_steps, .ref a0_onto, .ref a0_goes, .int (q7_found o0), .int (q7_images o0), .ref a0_firstImage, .int (q7_gathered o0)])), (a0_now, .inl (zI Z, 12, .inl (q7_now o0))), (a0_closed, .inl (zI Z, 256, .inl (q7_closed res.2))), (a0_faces, .inl (zI Z, 256, .inl (q7_faces res.2))), (a0_rankOf, .inl (zI Z, 256, .inl (q7_rankOf res.2))), (a0_placeOf, .inl (zI Z, 256, .inl (q7_placeOf res.2)))] := by
  refine MI_of (by decide +kernel) (Nat.le_of_ble_eq_true rfl) (fun {p e s m args below meth c} A R hR Q hQ C hr hlk => ?_)
  unfold fX7_meet at h
  refine g_lv [0, 1, 2] [(0, .ref a0), (1, .int p1), (2, .int p2)] rfl ?_
  refine g_aload_n C dX7_meet_0 rfl 0 rfl ?_
  refine g_iconst C 0 dX7_meet_1 (by decide) ?_
  refine g_put C 7 52 gin7 tyX7 tyX7_ok nmX7 0 rfl rfl 0 (by decide) mw_5_85 rfl rfl (ty := .int) (by decide +kernel) rfl rfl (Nat.le_of_ble_eq_true rfl) [(a0, .inr (7, [.int 0, .ref a0_buffer, .int (q7_length o0), .int (q7_at o0), .int (q7_from o0), .int (q7_kind o0), .int (q7_number o0), .int (q7_wrong o0), .ref a0_now, .ref a0_made, .ref a0_history, .ref a0_saved, .int (q7_entries o0), .int (q7_isSaved o0), .ref a0_closed, .ref a0_faces, .ref a0_rankOf, .ref a0_placeOf, .int (q7_faceMany o0), .int (q7_isLaid o0), .ref a0_counted, .ref a0_steps, .ref a0_onto, .ref a0_goes, .int (q7_found o0), .int (q7_images o0), .ref a0_firstImage, .int (q7_gathered o0)])), (a0_now, .inl (zI Z, 12, .inl (q7_now o0))), (a0_closed, .inl (zI Z, 256, .inl (q7_closed o0))), (a0_faces, .inl (zI Z, 256, .inl (q7_faces o0))), (a0_rankOf, .inl (zI Z, 256, .inl (q7_rankOf o0))), (a0_placeOf, .inl (zI Z, 256, .inl (q7_placeOf o0)))] rfl dX7_meet_2 ?_
  refine g_aload_n C dX7_meet_5 rfl 0 rfl ?_
  refine g_iload_n C dX7_meet_6 rfl 1 rfl ?_
  refine g_iload_n C dX7_meet_7 rfl 2 rfl ?_
  obtain ⟨r1, hr2, h⟩ := bd_of h
  refine g_callVi C (kX7_failsFaces l Z a0 a0_buffer a0_now a0_made a0_history a0_saved a0_closed a0_faces a0_rankOf a0_placeOf a0_counted a0_steps a0_onto a0_goes a0_firstImage (s7_thrown o0 0) p1 p2 r1 hr2) 0 rfl (ci := 7) rfl rfl myX7_failsFaces 269 mw_7_9 rfl [0, 1, 2, 3, 4, 5] [] [0, 1, 2, 3, 4, 5] (wr := []) rfl rfl (by decide) (by decide) (by decide) [(a0, .inr (7, [.int (q7_thrown r1.2), .ref a0_buffer, .int (q7_length o0), .int (q7_at o0), .int (q7_from o0), .int (q7_kind o0), .int (q7_number o0), .int (q7_wrong o0), .ref a0_now, .ref a0_made, .ref a0_history, .ref a0_saved, .int (q7_entries o0), .int (q7_isSaved o0), .ref a0_closed, .ref a0_faces, .ref a0_rankOf, .ref a0_placeOf, .int (q7_faceMany r1.2), .int (q7_isLaid r1.2), .ref a0_counted, .ref a0_steps, .ref a0_onto, .ref a0_goes, .int (q7_found o0), .int (q7_images o0), .ref a0_firstImage, .int (q7_gathered o0)])), (a0_now, .inl (zI Z, 12, .inl (q7_now o0))), (a0_closed, .inl (zI Z, 256, .inl (q7_closed r1.2))), (a0_faces, .inl (zI Z, 256, .inl (q7_faces r1.2))), (a0_rankOf, .inl (zI Z, 256, .inl (q7_rankOf r1.2))), (a0_placeOf, .inl (zI Z, 256, .inl (q7_placeOf r1.2)))] rfl (by decide) (Nat.le_of_ble_eq_true rfl) (by rw [hR]; exact Nat.le_of_ble_eq_true rfl) (by rw [hR]; exact Nat.le_of_ble_eq_true rfl) ⟨by rw [hR]; exact Nat.le_of_ble_eq_true rfl, by rw [hR]; exact Nat.le_of_ble_eq_true rfl⟩ rfl dX7_meet_8 ?_
  refine g_if_eq C 18 dX7_meet_11 (by decide) (fun c3 => ?_) (fun c3 => ?_)
  · replace h := it_t c3 h
    refine g_aload_n C dX7_meet_18 rfl 0 rfl ?_
    refine g_get C 7 34 gin7 0 rfl rfl 17 (by decide) mw_5_102 rfl rfl dX7_meet_19 ?_
    refine g_aload_n C dX7_meet_22 rfl 0 rfl ?_
    refine g_get C 7 28 gin7 0 rfl rfl 15 (by decide) mw_5_100 rfl rfl dX7_meet_23 ?_
    refine g_iload_n C dX7_meet_26 rfl 1 rfl ?_
    obtain ⟨hi4, h⟩ := ck_of h
    refine g_iald C 3 rfl hi4 dX7_meet_27 ?_
    refine g_aload_n C dX7_meet_28 rfl 0 rfl ?_
    refine g_get C 7 28 gin7 0 rfl rfl 15 (by decide) mw_5_100 rfl rfl dX7_meet_29 ?_
    refine g_iload_n C dX7_meet_32 rfl 2 rfl ?_
    obtain ⟨hi5, h⟩ := ck_of h
    refine g_iald C 3 rfl hi5 dX7_meet_33 ?_
    refine g_iand C dX7_meet_34 ?_
    obtain ⟨hi6, h⟩ := ck_of h
    refine g_iald C 5 rfl hi6 dX7_meet_35 ?_
    obtain rfl := Option.some.inj h
    subst hQ
    exact g_iret C rfl hr hlk dX7_meet_36 [0, 1, 2, 3, 4, 5] rfl (by decide)
  · replace h := it_f c3 h
    refine g_iconst C 0 dX7_meet_14 (by decide) ?_
    refine g_goto C 36 dX7_meet_15 (by decide) ?_
    obtain rfl := Option.some.inj h
    subst hQ
    exact g_iret C rfl hr hlk dX7_meet_36 [0, 1, 2, 3, 4, 5] rfl (by decide)
def fX7_betweenOf_L5 (o0 : OX7) (p1 : Int32) (p2 : Int32) (v1 : Int32 × Int32) : Option ((Int32 × Int32) ⊕ (Int32)) :=
  if (q7_faceMany o0) ≤ v1.2 then (ex (some v1.1))
  else ((fX7_isIn o0 p1 v1.2).bind fun r4 =>
  (if r4 = 0 then (some (.inl ((v1.1 + 0), (v1.2 + 1))))
  else ((fX7_isIn o0 v1.2 p2).bind fun r7 =>
  (if r7 = 0 then (some (.inl ((v1.1 + 0), (v1.2 + 1))))
  else (some (.inl ((v1.1 + 1), (v1.2 + 1))))))))
def fX7_betweenOf (o0 : OX7) (p1 : Int32) (p2 : Int32) : Option (Int32) :=
  lp (fX7_betweenOf_L5 o0 p1 p2) lpN (0, 0)
theorem myX7_betweenOf : MYv yX7_betweenOf cX7_betweenOf 5 (some .int) 2 := ⟨mw_7_23, ms_71, mw_7_24, mw_1_9, ⟨by decide +kernel, by decide +kernel⟩, by decide +kernel⟩
set_option maxRecDepth 100000 in
set_option maxHeartbeats 4000000 in
theorem kX7_betweenOf (l : Launch) (Z : GZ) (a0 a0_buffer a0_now a0_made a0_history a0_saved a0_closed a0_faces a0_rankOf a0_placeOf a0_counted a0_steps a0_onto a0_goes a0_firstImage : Nat) (o0 : OX7) (p1 : Int32) (p2 : Int32) (res : Int32) (h : fX7_betweenOf o0 p1 p2 = some res) : MI l Z yX7_betweenOf cX7_betweenOf 5 .int 2 43 [.ref a0, .int p1, .int p2] [(a0, .inr (7, [.int (q7_thrown o0), .ref a0_buffer, .int (q7_length o0), .int (q7_at o0), .int (q7_from o0), .int (q7_kind o0), .int (q7_number o0), .int (q7_wrong o0), .ref a0_now, .ref a0_made, .ref a0_history, .ref a0_saved, .int (q7_entries o0), .int (q7_isSaved o0), .ref a0_closed, .ref a0_faces, .ref a0_rankOf, .ref a0_placeOf, .int (q7_faceMany o0), .int (q7_isLaid o0), .ref a0_counted, .ref a0_steps, .ref a0_onto, .ref a0_goes, .int (q7_found o0), .int (q7_images o0), .ref a0_firstImage, .int (q7_gathered o0)])), (a0_faces, .inl (zI Z, 256, .inl (q7_faces o0)))] res [(a0, .inr (7, [.int (q7_thrown o0), .ref a0_buffer, .int (q7_length o0), .int (q7_at o0), .int (q7_from o0), .int (q7_kind o0), .int (q7_number o0), .int (q7_wrong o0), .ref a0_now, .ref a0_made, .ref a0_history, .ref a0_saved, .int (q7_entries o0), .int (q7_isSaved o0), .ref a0_closed, .ref a0_faces, .ref a0_rankOf, .ref a0_placeOf, .int (q7_faceMany o0), .int (q7_isLaid o0), .ref a0_counted, .ref a0_steps, .ref a0_onto, .ref a0_goes, .int (q7_found o0), .int (q7_images o0), .ref a0_firstImage, .int (q7_gathered o0)])), (a0_faces, .inl (zI Z, 256, .inl (q7_faces o0)))] := by
  refine MI_of (by decide +kernel) (Nat.le_of_ble_eq_true rfl) (fun {p e s m args below meth c} A R hR Q hQ C hr hlk => ?_)
  unfold fX7_betweenOf at h
  refine g_lv [0, 1, 2] [(0, .ref a0), (1, .int p1), (2, .int p2)] rfl ?_
  refine g_iconst C 0 dX7_betweenOf_0 (by decide) ?_
  refine g_istore_n C dX7_betweenOf_1 rfl (by decide) [(3, .int 0), (0, .ref a0), (1, .int p1), (2, .int p2)] rfl ?_
  refine g_iconst C 0 dX7_betweenOf_2 (by decide) ?_
  refine g_istore C dX7_betweenOf_3 (by decide) [(4, .int 0), (3, .int 0), (0, .ref a0), (1, .int p1), (2, .int p2)] rfl ?_
  refine g_lv [2, 3, 4, 1, 0] [(0, .ref a0), (1, .int p1), (2, .int p2), (3, .int 0), (4, .int 0)] rfl ?_
  refine g_loop (lvf := fun v1 => [(0, .ref a0), (1, .int p1), (2, .int p2), (3, .int v1.1), (4, .int v1.2)]) (wsf := fun v1 => [(a0, .inr (7, [.int (q7_thrown o0), .ref a0_buffer, .int (q7_length o0), .int (q7_at o0), .int (q7_from o0), .int (q7_kind o0), .int (q7_number o0), .int (q7_wrong o0), .ref a0_now, .ref a0_made, .ref a0_history, .ref a0_saved, .int (q7_entries o0), .int (q7_isSaved o0), .ref a0_closed, .ref a0_faces, .ref a0_rankOf, .ref a0_placeOf, .int (q7_faceMany o0), .int (q7_isLaid o0), .ref a0_counted, .ref a0_steps, .ref a0_onto, .ref a0_goes, .int (q7_found o0), .int (q7_images o0), .ref a0_firstImage, .int (q7_gathered o0)])), (a0_faces, .inl (zI Z, 256, .inl (q7_faces o0)))]) h (fun v1 y1 h hk1 hx1 => ?_)
  refine g_eq (lv1 := [(0, .ref a0), (1, .int p1), (2, .int p2), (3, .int v1.1), (4, .int v1.2)]) (st1 := []) (ws1 := [(a0, .inr (7, [.int (q7_thrown o0), .ref a0_buffer, .int (q7_length o0), .int (q7_at o0), .int (q7_from o0), .int (q7_kind o0), .int (q7_number o0), .int (q7_wrong o0), .ref a0_now, .ref a0_made, .ref a0_history, .ref a0_saved, .int (q7_entries o0), .int (q7_isSaved o0), .ref a0_closed, .ref a0_faces, .ref a0_rankOf, .ref a0_placeOf, .int (q7_faceMany o0), .int (q7_isLaid o0), .ref a0_counted, .ref a0_steps, .ref a0_onto, .ref a0_goes, .int (q7_found o0), .int (q7_images o0), .ref a0_firstImage, .int (q7_gathered o0)])), (a0_faces, .inl (zI Z, 256, .inl (q7_faces o0)))]) rfl rfl rfl rfl ?_
  unfold fX7_betweenOf_L5 at h
  refine g_iload C dX7_betweenOf_5 4 rfl ?_
  refine g_aload_n C dX7_betweenOf_7 rfl 0 rfl ?_
  refine g_get C 7 214 gin7 0 rfl rfl 18 (by decide) mw_5_103 rfl rfl dX7_betweenOf_8 ?_
  refine g_icmp_ge C 48 dX7_betweenOf_11 (by decide) (fun c2 => ?_) (fun c2 => ?_)
  · replace h := it_t c2 h
    obtain ⟨r3, h, hy⟩ := ex_of h
    rw [hx1 r3 hy] at h
    refine g_iload_n C dX7_betweenOf_48 rfl 3 rfl ?_
    obtain rfl := Option.some.inj h
    subst hQ
    exact g_iret C rfl hr hlk dX7_betweenOf_49 [0, 1] rfl (by decide)
  · replace h := it_f c2 h
    refine g_iload_n C dX7_betweenOf_14 rfl 3 rfl ?_
    refine g_aload_n C dX7_betweenOf_15 rfl 0 rfl ?_
    refine g_iload_n C dX7_betweenOf_16 rfl 1 rfl ?_
    refine g_iload C dX7_betweenOf_17 4 rfl ?_
    obtain ⟨r4, hr5, h⟩ := bd_of h
    refine g_callVi C (kX7_isIn l Z a0 a0_buffer a0_now a0_made a0_history a0_saved a0_closed a0_faces a0_rankOf a0_placeOf a0_counted a0_steps a0_onto a0_goes a0_firstImage o0 p1 v1.2 r4 hr5) 0 rfl (ci := 7) rfl rfl myX7_isIn 272 mw_7_25 rfl [0, 1] [] [0, 1] (wr := []) rfl rfl (by decide) (by decide) (by decide) [(a0, .inr (7, [.int (q7_thrown o0), .ref a0_buffer, .int (q7_length o0), .int (q7_at o0), .int (q7_from o0), .int (q7_kind o0), .int (q7_number o0), .int (q7_wrong o0), .ref a0_now, .ref a0_made, .ref a0_history, .ref a0_saved, .int (q7_entries o0), .int (q7_isSaved o0), .ref a0_closed, .ref a0_faces, .ref a0_rankOf, .ref a0_placeOf, .int (q7_faceMany o0), .int (q7_isLaid o0), .ref a0_counted, .ref a0_steps, .ref a0_onto, .ref a0_goes, .int (q7_found o0), .int (q7_images o0), .ref a0_firstImage, .int (q7_gathered o0)])), (a0_faces, .inl (zI Z, 256, .inl (q7_faces o0)))] rfl (by decide) (Nat.le_of_ble_eq_true rfl) (by rw [hR]; exact Nat.le_of_ble_eq_true rfl) (by rw [hR]; exact Nat.le_of_ble_eq_true rfl) ⟨by rw [hR]; exact Nat.le_of_ble_eq_true rfl, by rw [hR]; exact Nat.le_of_ble_eq_true rfl⟩ rfl dX7_betweenOf_19 ?_
    refine g_if_eq C 39 dX7_betweenOf_22 (by decide) (fun c6 => ?_) (fun c6 => ?_)
    · replace h := it_t c6 h
      refine g_iconst C 0 dX7_betweenOf_39 (by decide) ?_
      refine g_iadd C dX7_betweenOf_40 ?_
      refine g_istore_n C dX7_betweenOf_41 rfl (by decide) [(3, .int (v1.1 + 0)), (0, .ref a0), (1, .int p1), (2, .int p2), (4, .int v1.2)] rfl ?_
      refine g_iinc C (v1.2 + 1) dX7_betweenOf_42 4 rfl rfl (by decide) [(4, .int (v1.2 + 1)), (3, .int (v1.1 + 0)), (0, .ref a0), (1, .int p1), (2, .int p2)] rfl ?_
      refine g_goto C 5 dX7_betweenOf_45 (by decide) ?_
      refine g_lv [2, 3, 4, 1, 0] [(0, .ref a0), (1, .int p1), (2, .int p2), (3, .int (v1.1 + 0)), (4, .int (v1.2 + 1))] rfl ?_
      exact hk1 ((v1.1 + 0), (v1.2 + 1)) (Option.some.inj h).symm
    · replace h := it_f c6 h
      refine g_aload_n C dX7_betweenOf_25 rfl 0 rfl ?_
      refine g_iload C dX7_betweenOf_26 4 rfl ?_
      refine g_iload_n C dX7_betweenOf_28 rfl 2 rfl ?_
      obtain ⟨r7, hr8, h⟩ := bd_of h
      refine g_callVi C (kX7_isIn l Z a0 a0_buffer a0_now a0_made a0_history a0_saved a0_closed a0_faces a0_rankOf a0_placeOf a0_counted a0_steps a0_onto a0_goes a0_firstImage o0 v1.2 p2 r7 hr8) 0 rfl (ci := 7) rfl rfl myX7_isIn 272 mw_7_25 rfl [0, 1] [] [0, 1] (wr := []) rfl rfl (by decide) (by decide) (by decide) [(a0, .inr (7, [.int (q7_thrown o0), .ref a0_buffer, .int (q7_length o0), .int (q7_at o0), .int (q7_from o0), .int (q7_kind o0), .int (q7_number o0), .int (q7_wrong o0), .ref a0_now, .ref a0_made, .ref a0_history, .ref a0_saved, .int (q7_entries o0), .int (q7_isSaved o0), .ref a0_closed, .ref a0_faces, .ref a0_rankOf, .ref a0_placeOf, .int (q7_faceMany o0), .int (q7_isLaid o0), .ref a0_counted, .ref a0_steps, .ref a0_onto, .ref a0_goes, .int (q7_found o0), .int (q7_images o0), .ref a0_firstImage, .int (q7_gathered o0)])), (a0_faces, .inl (zI Z, 256, .inl (q7_faces o0)))] rfl (by decide) (Nat.le_of_ble_eq_true rfl) (by rw [hR]; exact Nat.le_of_ble_eq_true rfl) (by rw [hR]; exact Nat.le_of_ble_eq_true rfl) ⟨by rw [hR]; exact Nat.le_of_ble_eq_true rfl, by rw [hR]; exact Nat.le_of_ble_eq_true rfl⟩ rfl dX7_betweenOf_29 ?_
      refine g_if_eq C 39 dX7_betweenOf_32 (by decide) (fun c9 => ?_) (fun c9 => ?_)
      · replace h := it_t c9 h
        refine g_iconst C 0 dX7_betweenOf_39 (by decide) ?_
        refine g_iadd C dX7_betweenOf_40 ?_
        refine g_istore_n C dX7_betweenOf_41 rfl (by decide) [(3, .int (v1.1 + 0)), (0, .ref a0), (1, .int p1), (2, .int p2), (4, .int v1.2)] rfl ?_
        refine g_iinc C (v1.2 + 1) dX7_betweenOf_42 4 rfl rfl (by decide) [(4, .int (v1.2 + 1)), (3, .int (v1.1 + 0)), (0, .ref a0), (1, .int p1), (2, .int p2)] rfl ?_
        refine g_goto C 5 dX7_betweenOf_45 (by decide) ?_
        refine g_lv [2, 3, 4, 1, 0] [(0, .ref a0), (1, .int p1), (2, .int p2), (3, .int (v1.1 + 0)), (4, .int (v1.2 + 1))] rfl ?_
        exact hk1 ((v1.1 + 0), (v1.2 + 1)) (Option.some.inj h).symm
      · replace h := it_f c9 h
        refine g_iconst C 1 dX7_betweenOf_35 (by decide) ?_
        refine g_goto C 40 dX7_betweenOf_36 (by decide) ?_
        refine g_iadd C dX7_betweenOf_40 ?_
        refine g_istore_n C dX7_betweenOf_41 rfl (by decide) [(3, .int (v1.1 + 1)), (0, .ref a0), (1, .int p1), (2, .int p2), (4, .int v1.2)] rfl ?_
        refine g_iinc C (v1.2 + 1) dX7_betweenOf_42 4 rfl rfl (by decide) [(4, .int (v1.2 + 1)), (3, .int (v1.1 + 1)), (0, .ref a0), (1, .int p1), (2, .int p2)] rfl ?_
        refine g_goto C 5 dX7_betweenOf_45 (by decide) ?_
        refine g_lv [2, 3, 4, 1, 0] [(0, .ref a0), (1, .int p1), (2, .int p2), (3, .int (v1.1 + 1)), (4, .int (v1.2 + 1))] rfl ?_
        exact hk1 ((v1.1 + 1), (v1.2 + 1)) (Option.some.inj h).symm
def fX7_between (o0 : OX7) (p1 : Int32) (p2 : Int32) : Option (Int32 × OX7) :=
  (fX7_failsFaces (s7_thrown o0 0) p1 p2).bind fun r1 =>
  (if r1.1 = 0 then ((fX7_betweenOf (s7_isLaid (s7_faceMany (s7_placeOf (s7_rankOf (s7_faces (s7_closed (s7_thrown o0 (q7_thrown r1.2)) (q7_closed r1.2)) (q7_faces r1.2)) (q7_rankOf r1.2)) (q7_placeOf r1.2)) (q7_faceMany r1.2)) (q7_isLaid r1.2)) p1 p2).bind fun r4 =>
  (some (r4, (s7_isLaid (s7_faceMany (s7_placeOf (s7_rankOf (s7_faces (s7_closed (s7_thrown o0 (q7_thrown r1.2)) (q7_closed r1.2)) (q7_faces r1.2)) (q7_rankOf r1.2)) (q7_placeOf r1.2)) (q7_faceMany r1.2)) (q7_isLaid r1.2)))))
  else (some (0, (s7_isLaid (s7_faceMany (s7_placeOf (s7_rankOf (s7_faces (s7_closed (s7_thrown o0 (q7_thrown r1.2)) (q7_closed r1.2)) (q7_faces r1.2)) (q7_rankOf r1.2)) (q7_placeOf r1.2)) (q7_faceMany r1.2)) (q7_isLaid r1.2)))))
theorem myX7_between : MYv yX7_between cX7_between 3 (some .int) 2 := ⟨mw_7_18, mw_7_19, mw_7_20, mw_1_9, ⟨by decide +kernel, by decide +kernel⟩, by decide +kernel⟩
set_option maxRecDepth 100000 in
set_option maxHeartbeats 4000000 in
theorem kX7_between (l : Launch) (Z : GZ) (a0 a0_buffer a0_now a0_made a0_history a0_saved a0_closed a0_faces a0_rankOf a0_placeOf a0_counted a0_steps a0_onto a0_goes a0_firstImage : Nat) (o0 : OX7) (p1 : Int32) (p2 : Int32) (res : Int32 × OX7) (h : fX7_between o0 p1 p2 = some res) : MI l Z yX7_between cX7_between 3 .int 6 132 [.ref a0, .int p1, .int p2] [(a0, .inr (7, [.int (q7_thrown o0), .ref a0_buffer, .int (q7_length o0), .int (q7_at o0), .int (q7_from o0), .int (q7_kind o0), .int (q7_number o0), .int (q7_wrong o0), .ref a0_now, .ref a0_made, .ref a0_history, .ref a0_saved, .int (q7_entries o0), .int (q7_isSaved o0), .ref a0_closed, .ref a0_faces, .ref a0_rankOf, .ref a0_placeOf, .int (q7_faceMany o0), .int (q7_isLaid o0), .ref a0_counted, .ref a0_steps, .ref a0_onto, .ref a0_goes, .int (q7_found o0), .int (q7_images o0), .ref a0_firstImage, .int (q7_gathered o0)])), (a0_now, .inl (zI Z, 12, .inl (q7_now o0))), (a0_closed, .inl (zI Z, 256, .inl (q7_closed o0))), (a0_faces, .inl (zI Z, 256, .inl (q7_faces o0))), (a0_rankOf, .inl (zI Z, 256, .inl (q7_rankOf o0))), (a0_placeOf, .inl (zI Z, 256, .inl (q7_placeOf o0)))] res.1 [(a0, .inr (7, [.int (q7_thrown res.2), .ref a0_buffer, .int (q7_length o0), .int (q7_at o0), .int (q7_from o0), .int (q7_kind o0), .int (q7_number o0), .int (q7_wrong o0), .ref a0_now, .ref a0_made, .ref a0_history, .ref a0_saved, .int (q7_entries o0), .int (q7_isSaved o0), .ref a0_closed, .ref a0_faces, .ref a0_rankOf, .ref a0_placeOf, .int (q7_faceMany res.2), .int (q7_isLaid res.2), .ref a0_counted, .ref a0_steps, .ref a0_onto, .ref a0_goes, .int (q7_found o0), .int (q7_images o0), .ref a0_firstImage, .int (q7_gathered o0)])), (a0_now, .inl (zI Z, 12, .inl (q7_now o0))), (a0_closed, .inl (zI Z, 256, .inl (q7_closed res.2))), (a0_faces, .inl (zI Z, 256, .inl (q7_faces res.2))), (a0_rankOf, .inl (zI Z, 256, .inl (q7_rankOf res.2))), (a0_placeOf, .inl (zI Z, 256, .inl (q7_placeOf res.2)))] := by
  refine MI_of (by decide +kernel) (Nat.le_of_ble_eq_true rfl) (fun {p e s m args below meth c} A R hR Q hQ C hr hlk => ?_)
  unfold fX7_between at h
  refine g_lv [0, 1, 2] [(0, .ref a0), (1, .int p1), (2, .int p2)] rfl ?_
  refine g_aload_n C dX7_between_0 rfl 0 rfl ?_
  refine g_iconst C 0 dX7_between_1 (by decide) ?_
  refine g_put C 7 52 gin7 tyX7 tyX7_ok nmX7 0 rfl rfl 0 (by decide) mw_5_85 rfl rfl (ty := .int) (by decide +kernel) rfl rfl (Nat.le_of_ble_eq_true rfl) [(a0, .inr (7, [.int 0, .ref a0_buffer, .int (q7_length o0), .int (q7_at o0), .int (q7_from o0), .int (q7_kind o0), .int (q7_number o0), .int (q7_wrong o0), .ref a0_now, .ref a0_made, .ref a0_history, .ref a0_saved, .int (q7_entries o0), .int (q7_isSaved o0), .ref a0_closed, .ref a0_faces, .ref a0_rankOf, .ref a0_placeOf, .int (q7_faceMany o0), .int (q7_isLaid o0), .ref a0_counted, .ref a0_steps, .ref a0_onto, .ref a0_goes, .int (q7_found o0), .int (q7_images o0), .ref a0_firstImage, .int (q7_gathered o0)])), (a0_now, .inl (zI Z, 12, .inl (q7_now o0))), (a0_closed, .inl (zI Z, 256, .inl (q7_closed o0))), (a0_faces, .inl (zI Z, 256, .inl (q7_faces o0))), (a0_rankOf, .inl (zI Z, 256, .inl (q7_rankOf o0))), (a0_placeOf, .inl (zI Z, 256, .inl (q7_placeOf o0)))] rfl dX7_between_2 ?_
  refine g_aload_n C dX7_between_5 rfl 0 rfl ?_
  refine g_iload_n C dX7_between_6 rfl 1 rfl ?_
  refine g_iload_n C dX7_between_7 rfl 2 rfl ?_
  obtain ⟨r1, hr2, h⟩ := bd_of h
  refine g_callVi C (kX7_failsFaces l Z a0 a0_buffer a0_now a0_made a0_history a0_saved a0_closed a0_faces a0_rankOf a0_placeOf a0_counted a0_steps a0_onto a0_goes a0_firstImage (s7_thrown o0 0) p1 p2 r1 hr2) 0 rfl (ci := 7) rfl rfl myX7_failsFaces 269 mw_7_9 rfl [0, 1, 2, 3, 4, 5] [] [0, 1, 2, 3, 4, 5] (wr := []) rfl rfl (by decide) (by decide) (by decide) [(a0, .inr (7, [.int (q7_thrown r1.2), .ref a0_buffer, .int (q7_length o0), .int (q7_at o0), .int (q7_from o0), .int (q7_kind o0), .int (q7_number o0), .int (q7_wrong o0), .ref a0_now, .ref a0_made, .ref a0_history, .ref a0_saved, .int (q7_entries o0), .int (q7_isSaved o0), .ref a0_closed, .ref a0_faces, .ref a0_rankOf, .ref a0_placeOf, .int (q7_faceMany r1.2), .int (q7_isLaid r1.2), .ref a0_counted, .ref a0_steps, .ref a0_onto, .ref a0_goes, .int (q7_found o0), .int (q7_images o0), .ref a0_firstImage, .int (q7_gathered o0)])), (a0_now, .inl (zI Z, 12, .inl (q7_now o0))), (a0_closed, .inl (zI Z, 256, .inl (q7_closed r1.2))), (a0_faces, .inl (zI Z, 256, .inl (q7_faces r1.2))), (a0_rankOf, .inl (zI Z, 256, .inl (q7_rankOf r1.2))), (a0_placeOf, .inl (zI Z, 256, .inl (q7_placeOf r1.2)))] rfl (by decide) (Nat.le_of_ble_eq_true rfl) (by rw [hR]; exact Nat.le_of_ble_eq_true rfl) (by rw [hR]; exact Nat.le_of_ble_eq_true rfl) ⟨by rw [hR]; exact Nat.le_of_ble_eq_true rfl, by rw [hR]; exact Nat.le_of_ble_eq_true rfl⟩ rfl dX7_between_8 ?_
  refine g_if_eq C 18 dX7_between_11 (by decide) (fun c3 => ?_) (fun c3 => ?_)
  · replace h := it_t c3 h
    refine g_aload_n C dX7_between_18 rfl 0 rfl ?_
    refine g_iload_n C dX7_between_19 rfl 1 rfl ?_
    refine g_iload_n C dX7_between_20 rfl 2 rfl ?_
    obtain ⟨r4, hr5, h⟩ := bd_of h
    refine g_callVi C (kX7_betweenOf l Z a0 a0_buffer a0_now a0_made a0_history a0_saved a0_closed a0_faces a0_rankOf a0_placeOf a0_counted a0_steps a0_onto a0_goes a0_firstImage (s7_isLaid (s7_faceMany (s7_placeOf (s7_rankOf (s7_faces (s7_closed (s7_thrown o0 (q7_thrown r1.2)) (q7_closed r1.2)) (q7_faces r1.2)) (q7_rankOf r1.2)) (q7_placeOf r1.2)) (q7_faceMany r1.2)) (q7_isLaid r1.2)) p1 p2 r4 hr5) 0 rfl (ci := 7) rfl rfl myX7_betweenOf 275 mw_7_21 rfl [0, 3] [1, 2, 4, 5] [4, 0, 1, 5, 2, 3] (wr := [(a0_now, .inl (zI Z, 12, .inl (q7_now o0))), (a0_closed, .inl (zI Z, 256, .inl (q7_closed r1.2))), (a0_rankOf, .inl (zI Z, 256, .inl (q7_rankOf r1.2))), (a0_placeOf, .inl (zI Z, 256, .inl (q7_placeOf r1.2)))]) rfl rfl (by decide) (by decide) (by decide) [(a0, .inr (7, [.int (q7_thrown r1.2), .ref a0_buffer, .int (q7_length o0), .int (q7_at o0), .int (q7_from o0), .int (q7_kind o0), .int (q7_number o0), .int (q7_wrong o0), .ref a0_now, .ref a0_made, .ref a0_history, .ref a0_saved, .int (q7_entries o0), .int (q7_isSaved o0), .ref a0_closed, .ref a0_faces, .ref a0_rankOf, .ref a0_placeOf, .int (q7_faceMany r1.2), .int (q7_isLaid r1.2), .ref a0_counted, .ref a0_steps, .ref a0_onto, .ref a0_goes, .int (q7_found o0), .int (q7_images o0), .ref a0_firstImage, .int (q7_gathered o0)])), (a0_now, .inl (zI Z, 12, .inl (q7_now o0))), (a0_closed, .inl (zI Z, 256, .inl (q7_closed r1.2))), (a0_faces, .inl (zI Z, 256, .inl (q7_faces r1.2))), (a0_rankOf, .inl (zI Z, 256, .inl (q7_rankOf r1.2))), (a0_placeOf, .inl (zI Z, 256, .inl (q7_placeOf r1.2)))] rfl (by decide) (Nat.le_of_ble_eq_true rfl) (by rw [hR]; exact Nat.le_of_ble_eq_true rfl) (by rw [hR]; exact Nat.le_of_ble_eq_true rfl) ⟨by rw [hR]; exact Nat.le_of_ble_eq_true rfl, by rw [hR]; exact Nat.le_of_ble_eq_true rfl⟩ rfl dX7_between_21 ?_
    obtain rfl := Option.some.inj h
    subst hQ
    exact g_iret C rfl hr hlk dX7_between_24 [0, 1, 2, 3, 4, 5] rfl (by decide)
  · replace h := it_f c3 h
    refine g_iconst C 0 dX7_between_14 (by decide) ?_
    refine g_goto C 24 dX7_between_15 (by decide) ?_
    obtain rfl := Option.some.inj h
    subst hQ
    exact g_iret C rfl hr hlk dX7_between_24 [0, 1, 2, 3, 4, 5] rfl (by decide)
def fX7_chainsOf_L29 (o0 : OX7) (v1 : Int32 × (Nat → Int32)) (v7 : Int32 × (Nat → Int32)) : Option ((Int32 × (Nat → Int32)) ⊕ ((Int32 × (Nat → Int32)) ⊕ (Int32 × OX7))) :=
  if v1.1 ≤ v7.1 then (ex (some (.inl ((v1.1 + 1), v7.2))))
  else (ck (okI v1.1 256) ((fX7_covers (s7_counted o0 v7.2) v1.1 v7.1).bind fun r11 =>
  (if r11 = 0 then (ck (okI v1.1 256) (some (.inl ((v7.1 + 1), (upd v7.2 (ix v1.1) ((v7.2 (ix v1.1)) + 0))))))
  else (ck (okI v7.1 256) (ck (okI v1.1 256) (some (.inl ((v7.1 + 1), (upd v7.2 (ix v1.1) ((v7.2 (ix v1.1)) + (v7.2 (ix v7.1))))))))))))
def fX7_chainsOf_J25 (o0 : OX7) (v1 : Int32 × (Nat → Int32)) (x5 : Int32) : Option ((Int32 × (Nat → Int32)) ⊕ (Int32 × OX7)) :=
  ck (okI v1.1 256) (lp (fX7_chainsOf_L29 o0 v1) lpN (0, (upd v1.2 (ix v1.1) x5)))
def fX7_chainsOf_L2 (o0 : OX7) (p1 : Int32) (p2 : Int32) (v1 : Int32 × (Nat → Int32)) : Option ((Int32 × (Nat → Int32)) ⊕ (Int32 × OX7)) :=
  if (q7_faceMany o0) ≤ v1.1 then (ex (ck (okI p2 256) (some ((v1.2 (ix p2)), (s7_counted o0 v1.2)))))
  else (if v1.1 = p1 then (fX7_chainsOf_J25 o0 v1 1)
  else (fX7_chainsOf_J25 o0 v1 0))
def fX7_chainsOf (o0 : OX7) (p1 : Int32) (p2 : Int32) : Option (Int32 × OX7) :=
  lp (fX7_chainsOf_L2 o0 p1 p2) lpN (0, (q7_counted o0))
theorem myX7_chainsOf : MYv yX7_chainsOf cX7_chainsOf 5 (some .int) 2 := ⟨mw_7_35, ms_73, mw_7_36, mw_1_9, ⟨by decide +kernel, by decide +kernel⟩, by decide +kernel⟩
set_option maxRecDepth 100000 in
set_option maxHeartbeats 4000000 in
theorem kX7_chainsOf (l : Launch) (Z : GZ) (a0 a0_buffer a0_now a0_made a0_history a0_saved a0_closed a0_faces a0_rankOf a0_placeOf a0_counted a0_steps a0_onto a0_goes a0_firstImage : Nat) (o0 : OX7) (p1 : Int32) (p2 : Int32) (res : Int32 × OX7) (h : fX7_chainsOf o0 p1 p2 = some res) : MI l Z yX7_chainsOf cX7_chainsOf 5 .int 3 66 [.ref a0, .int p1, .int p2] [(a0, .inr (7, [.int (q7_thrown o0), .ref a0_buffer, .int (q7_length o0), .int (q7_at o0), .int (q7_from o0), .int (q7_kind o0), .int (q7_number o0), .int (q7_wrong o0), .ref a0_now, .ref a0_made, .ref a0_history, .ref a0_saved, .int (q7_entries o0), .int (q7_isSaved o0), .ref a0_closed, .ref a0_faces, .ref a0_rankOf, .ref a0_placeOf, .int (q7_faceMany o0), .int (q7_isLaid o0), .ref a0_counted, .ref a0_steps, .ref a0_onto, .ref a0_goes, .int (q7_found o0), .int (q7_images o0), .ref a0_firstImage, .int (q7_gathered o0)])), (a0_closed, .inl (zI Z, 256, .inl (q7_closed o0))), (a0_faces, .inl (zI Z, 256, .inl (q7_faces o0))), (a0_counted, .inl (zI Z, 256, .inl (q7_counted o0)))] res.1 [(a0, .inr (7, [.int (q7_thrown o0), .ref a0_buffer, .int (q7_length o0), .int (q7_at o0), .int (q7_from o0), .int (q7_kind o0), .int (q7_number o0), .int (q7_wrong o0), .ref a0_now, .ref a0_made, .ref a0_history, .ref a0_saved, .int (q7_entries o0), .int (q7_isSaved o0), .ref a0_closed, .ref a0_faces, .ref a0_rankOf, .ref a0_placeOf, .int (q7_faceMany o0), .int (q7_isLaid o0), .ref a0_counted, .ref a0_steps, .ref a0_onto, .ref a0_goes, .int (q7_found o0), .int (q7_images o0), .ref a0_firstImage, .int (q7_gathered o0)])), (a0_closed, .inl (zI Z, 256, .inl (q7_closed o0))), (a0_faces, .inl (zI Z, 256, .inl (q7_faces o0))), (a0_counted, .inl (zI Z, 256, .inl (q7_counted res.2)))] := by
  refine MI_of (by decide +kernel) (Nat.le_of_ble_eq_true rfl) (fun {p e s m args below meth c} A R hR Q hQ C hr hlk => ?_)
  unfold fX7_chainsOf at h
  refine g_lv [0, 1, 2] [(0, .ref a0), (1, .int p1), (2, .int p2)] rfl ?_
  refine g_iconst C 0 dX7_chainsOf_0 (by decide) ?_
  refine g_istore_n C dX7_chainsOf_1 rfl (by decide) [(3, .int 0), (0, .ref a0), (1, .int p1), (2, .int p2)] rfl ?_
  refine g_lv [1, 2, 3, 0] [(0, .ref a0), (1, .int p1), (2, .int p2), (3, .int 0)] rfl ?_
  refine g_loop (lvf := fun v1 => [(0, .ref a0), (1, .int p1), (2, .int p2), (3, .int v1.1)]) (wsf := fun v1 => [(a0, .inr (7, [.int (q7_thrown o0), .ref a0_buffer, .int (q7_length o0), .int (q7_at o0), .int (q7_from o0), .int (q7_kind o0), .int (q7_number o0), .int (q7_wrong o0), .ref a0_now, .ref a0_made, .ref a0_history, .ref a0_saved, .int (q7_entries o0), .int (q7_isSaved o0), .ref a0_closed, .ref a0_faces, .ref a0_rankOf, .ref a0_placeOf, .int (q7_faceMany o0), .int (q7_isLaid o0), .ref a0_counted, .ref a0_steps, .ref a0_onto, .ref a0_goes, .int (q7_found o0), .int (q7_images o0), .ref a0_firstImage, .int (q7_gathered o0)])), (a0_closed, .inl (zI Z, 256, .inl (q7_closed o0))), (a0_faces, .inl (zI Z, 256, .inl (q7_faces o0))), (a0_counted, .inl (zI Z, 256, .inl v1.2))]) h (fun v1 y1 h hk1 hx1 => ?_)
  refine g_eq (lv1 := [(0, .ref a0), (1, .int p1), (2, .int p2), (3, .int v1.1)]) (st1 := []) (ws1 := [(a0, .inr (7, [.int (q7_thrown o0), .ref a0_buffer, .int (q7_length o0), .int (q7_at o0), .int (q7_from o0), .int (q7_kind o0), .int (q7_number o0), .int (q7_wrong o0), .ref a0_now, .ref a0_made, .ref a0_history, .ref a0_saved, .int (q7_entries o0), .int (q7_isSaved o0), .ref a0_closed, .ref a0_faces, .ref a0_rankOf, .ref a0_placeOf, .int (q7_faceMany o0), .int (q7_isLaid o0), .ref a0_counted, .ref a0_steps, .ref a0_onto, .ref a0_goes, .int (q7_found o0), .int (q7_images o0), .ref a0_firstImage, .int (q7_gathered o0)])), (a0_closed, .inl (zI Z, 256, .inl (q7_closed o0))), (a0_faces, .inl (zI Z, 256, .inl (q7_faces o0))), (a0_counted, .inl (zI Z, 256, .inl v1.2))]) rfl rfl rfl rfl ?_
  unfold fX7_chainsOf_L2 at h
  refine g_iload_n C dX7_chainsOf_2 rfl 3 rfl ?_
  refine g_aload_n C dX7_chainsOf_3 rfl 0 rfl ?_
  refine g_get C 7 214 gin7 0 rfl rfl 18 (by decide) mw_5_103 rfl rfl dX7_chainsOf_4 ?_
  refine g_icmp_ge C 77 dX7_chainsOf_7 (by decide) (fun c2 => ?_) (fun c2 => ?_)
  · replace h := it_t c2 h
    obtain ⟨r3, h, hy⟩ := ex_of h
    rw [hx1 r3 hy] at h
    refine g_aload_n C dX7_chainsOf_77 rfl 0 rfl ?_
    refine g_get C 7 37 gin7 0 rfl rfl 20 (by decide) mw_5_105 rfl rfl dX7_chainsOf_78 ?_
    refine g_iload_n C dX7_chainsOf_81 rfl 2 rfl ?_
    obtain ⟨hi4, h⟩ := ck_of h
    refine g_iald C 3 rfl hi4 dX7_chainsOf_82 ?_
    obtain rfl := Option.some.inj h
    subst hQ
    exact g_iret C rfl hr hlk dX7_chainsOf_83 [0, 1, 2, 3] rfl (by decide)
  · replace h := it_f c2 h
    refine g_aload_n C dX7_chainsOf_10 rfl 0 rfl ?_
    refine g_get C 7 37 gin7 0 rfl rfl 20 (by decide) mw_5_105 rfl rfl dX7_chainsOf_11 ?_
    refine g_iload_n C dX7_chainsOf_14 rfl 3 rfl ?_
    refine g_iload_n C dX7_chainsOf_15 rfl 3 rfl ?_
    refine g_iload_n C dX7_chainsOf_16 rfl 1 rfl ?_
    have hj25 : ∀ (x5 : Int32), fX7_chainsOf_J25 o0 v1 x5 = some y1 → Gw p l e R s m args below meth c 5 Z A Q 0 0 25 [(0, .ref a0), (1, .int p1), (2, .int p2), (3, .int v1.1)] [.int x5, .int v1.1, .ref a0_counted] [(a0, .inr (7, [.int (q7_thrown o0), .ref a0_buffer, .int (q7_length o0), .int (q7_at o0), .int (q7_from o0), .int (q7_kind o0), .int (q7_number o0), .int (q7_wrong o0), .ref a0_now, .ref a0_made, .ref a0_history, .ref a0_saved, .int (q7_entries o0), .int (q7_isSaved o0), .ref a0_closed, .ref a0_faces, .ref a0_rankOf, .ref a0_placeOf, .int (q7_faceMany o0), .int (q7_isLaid o0), .ref a0_counted, .ref a0_steps, .ref a0_onto, .ref a0_goes, .int (q7_found o0), .int (q7_images o0), .ref a0_firstImage, .int (q7_gathered o0)])), (a0_closed, .inl (zI Z, 256, .inl (q7_closed o0))), (a0_faces, .inl (zI Z, 256, .inl (q7_faces o0))), (a0_counted, .inl (zI Z, 256, .inl v1.2))] := by
      intro x5 h
      unfold fX7_chainsOf_J25 at h
      obtain ⟨hi6, h⟩ := ck_of h
      refine g_iast C 3 rfl hi6 [(a0, .inr (7, [.int (q7_thrown o0), .ref a0_buffer, .int (q7_length o0), .int (q7_at o0), .int (q7_from o0), .int (q7_kind o0), .int (q7_number o0), .int (q7_wrong o0), .ref a0_now, .ref a0_made, .ref a0_history, .ref a0_saved, .int (q7_entries o0), .int (q7_isSaved o0), .ref a0_closed, .ref a0_faces, .ref a0_rankOf, .ref a0_placeOf, .int (q7_faceMany o0), .int (q7_isLaid o0), .ref a0_counted, .ref a0_steps, .ref a0_onto, .ref a0_goes, .int (q7_found o0), .int (q7_images o0), .ref a0_firstImage, .int (q7_gathered o0)])), (a0_closed, .inl (zI Z, 256, .inl (q7_closed o0))), (a0_faces, .inl (zI Z, 256, .inl (q7_faces o0))), (a0_counted, .inl (zI Z, 256, .inl (upd v1.2 (ix v1.1) x5)))] rfl dX7_chainsOf_25 ?_
      refine g_iconst C 0 dX7_chainsOf_26 (by decide) ?_
      refine g_istore C dX7_chainsOf_27 (by decide) [(4, .int 0), (0, .ref a0), (1, .int p1), (2, .int p2), (3, .int v1.1)] rfl ?_
      refine g_lv [1, 2, 3, 4, 0] [(0, .ref a0), (1, .int p1), (2, .int p2), (3, .int v1.1), (4, .int 0)] rfl ?_
      refine g_loop (lvf := fun v7 => [(0, .ref a0), (1, .int p1), (2, .int p2), (3, .int v1.1), (4, .int v7.1)]) (wsf := fun v7 => [(a0, .inr (7, [.int (q7_thrown o0), .ref a0_buffer, .int (q7_length o0), .int (q7_at o0), .int (q7_from o0), .int (q7_kind o0), .int (q7_number o0), .int (q7_wrong o0), .ref a0_now, .ref a0_made, .ref a0_history, .ref a0_saved, .int (q7_entries o0), .int (q7_isSaved o0), .ref a0_closed, .ref a0_faces, .ref a0_rankOf, .ref a0_placeOf, .int (q7_faceMany o0), .int (q7_isLaid o0), .ref a0_counted, .ref a0_steps, .ref a0_onto, .ref a0_goes, .int (q7_found o0), .int (q7_images o0), .ref a0_firstImage, .int (q7_gathered o0)])), (a0_closed, .inl (zI Z, 256, .inl (q7_closed o0))), (a0_faces, .inl (zI Z, 256, .inl (q7_faces o0))), (a0_counted, .inl (zI Z, 256, .inl v7.2))]) h (fun v7 y2 h hk2 hx2 => ?_)
      refine g_eq (lv1 := [(0, .ref a0), (1, .int p1), (2, .int p2), (3, .int v1.1), (4, .int v7.1)]) (st1 := []) (ws1 := [(a0, .inr (7, [.int (q7_thrown o0), .ref a0_buffer, .int (q7_length o0), .int (q7_at o0), .int (q7_from o0), .int (q7_kind o0), .int (q7_number o0), .int (q7_wrong o0), .ref a0_now, .ref a0_made, .ref a0_history, .ref a0_saved, .int (q7_entries o0), .int (q7_isSaved o0), .ref a0_closed, .ref a0_faces, .ref a0_rankOf, .ref a0_placeOf, .int (q7_faceMany o0), .int (q7_isLaid o0), .ref a0_counted, .ref a0_steps, .ref a0_onto, .ref a0_goes, .int (q7_found o0), .int (q7_images o0), .ref a0_firstImage, .int (q7_gathered o0)])), (a0_closed, .inl (zI Z, 256, .inl (q7_closed o0))), (a0_faces, .inl (zI Z, 256, .inl (q7_faces o0))), (a0_counted, .inl (zI Z, 256, .inl v7.2))]) rfl rfl rfl rfl ?_
      unfold fX7_chainsOf_L29 at h
      refine g_iload C dX7_chainsOf_29 4 rfl ?_
      refine g_iload_n C dX7_chainsOf_31 rfl 3 rfl ?_
      refine g_icmp_ge C 71 dX7_chainsOf_32 (by decide) (fun c8 => ?_) (fun c8 => ?_)
      · replace h := it_t c8 h
        obtain ⟨r9, h, hy⟩ := ex_of h
        rw [hx2 r9 hy] at h
        refine g_iinc C (v1.1 + 1) dX7_chainsOf_71 3 rfl rfl (by decide) [(3, .int (v1.1 + 1)), (0, .ref a0), (1, .int p1), (2, .int p2), (4, .int v7.1)] rfl ?_
        refine g_goto C 2 dX7_chainsOf_74 (by decide) ?_
        refine g_lv [1, 2, 3, 0] [(0, .ref a0), (1, .int p1), (2, .int p2), (3, .int (v1.1 + 1))] rfl ?_
        exact hk1 ((v1.1 + 1), v7.2) (Option.some.inj h).symm
      · replace h := it_f c8 h
        refine g_aload_n C dX7_chainsOf_35 rfl 0 rfl ?_
        refine g_get C 7 37 gin7 0 rfl rfl 20 (by decide) mw_5_105 rfl rfl dX7_chainsOf_36 ?_
        refine g_iload_n C dX7_chainsOf_39 rfl 3 rfl ?_
        refine g_dup2 C dX7_chainsOf_40 rfl rfl ?_
        obtain ⟨hi10, h⟩ := ck_of h
        refine g_iald C 3 rfl hi10 dX7_chainsOf_41 ?_
        refine g_aload_n C dX7_chainsOf_42 rfl 0 rfl ?_
        refine g_iload_n C dX7_chainsOf_43 rfl 3 rfl ?_
        refine g_iload C dX7_chainsOf_44 4 rfl ?_
        obtain ⟨r11, hr12, h⟩ := bd_of h
        refine g_callVi C (kX7_covers l Z a0 a0_buffer a0_now a0_made a0_history a0_saved a0_closed a0_faces a0_rankOf a0_placeOf a0_counted a0_steps a0_onto a0_goes a0_firstImage (s7_counted o0 v7.2) v1.1 v7.1 r11 hr12) 0 rfl (ci := 7) rfl rfl myX7_covers 241 mw_6_152 rfl [0, 1, 2] [3] [1, 2, 3, 0] (wr := [(a0_counted, .inl (zI Z, 256, .inl v7.2))]) rfl rfl (by decide) (by decide) (by decide) [(a0, .inr (7, [.int (q7_thrown o0), .ref a0_buffer, .int (q7_length o0), .int (q7_at o0), .int (q7_from o0), .int (q7_kind o0), .int (q7_number o0), .int (q7_wrong o0), .ref a0_now, .ref a0_made, .ref a0_history, .ref a0_saved, .int (q7_entries o0), .int (q7_isSaved o0), .ref a0_closed, .ref a0_faces, .ref a0_rankOf, .ref a0_placeOf, .int (q7_faceMany o0), .int (q7_isLaid o0), .ref a0_counted, .ref a0_steps, .ref a0_onto, .ref a0_goes, .int (q7_found o0), .int (q7_images o0), .ref a0_firstImage, .int (q7_gathered o0)])), (a0_closed, .inl (zI Z, 256, .inl (q7_closed o0))), (a0_faces, .inl (zI Z, 256, .inl (q7_faces o0))), (a0_counted, .inl (zI Z, 256, .inl v7.2))] rfl (by decide) (Nat.le_of_ble_eq_true rfl) (by rw [hR]; exact Nat.le_of_ble_eq_true rfl) (by rw [hR]; exact Nat.le_of_ble_eq_true rfl) ⟨by rw [hR]; exact Nat.le_of_ble_eq_true rfl, by rw [hR]; exact Nat.le_of_ble_eq_true rfl⟩ rfl dX7_chainsOf_46 ?_
        refine g_if_eq C 62 dX7_chainsOf_49 (by decide) (fun c13 => ?_) (fun c13 => ?_)
        · replace h := it_t c13 h
          refine g_iconst C 0 dX7_chainsOf_62 (by decide) ?_
          refine g_iadd C dX7_chainsOf_63 ?_
          obtain ⟨hi14, h⟩ := ck_of h
          refine g_iast C 3 rfl hi14 [(a0, .inr (7, [.int (q7_thrown o0), .ref a0_buffer, .int (q7_length o0), .int (q7_at o0), .int (q7_from o0), .int (q7_kind o0), .int (q7_number o0), .int (q7_wrong o0), .ref a0_now, .ref a0_made, .ref a0_history, .ref a0_saved, .int (q7_entries o0), .int (q7_isSaved o0), .ref a0_closed, .ref a0_faces, .ref a0_rankOf, .ref a0_placeOf, .int (q7_faceMany o0), .int (q7_isLaid o0), .ref a0_counted, .ref a0_steps, .ref a0_onto, .ref a0_goes, .int (q7_found o0), .int (q7_images o0), .ref a0_firstImage, .int (q7_gathered o0)])), (a0_closed, .inl (zI Z, 256, .inl (q7_closed o0))), (a0_faces, .inl (zI Z, 256, .inl (q7_faces o0))), (a0_counted, .inl (zI Z, 256, .inl (upd v7.2 (ix v1.1) ((v7.2 (ix v1.1)) + 0))))] rfl dX7_chainsOf_64 ?_
          refine g_iinc C (v7.1 + 1) dX7_chainsOf_65 4 rfl rfl (by decide) [(4, .int (v7.1 + 1)), (0, .ref a0), (1, .int p1), (2, .int p2), (3, .int v1.1)] rfl ?_
          refine g_goto C 29 dX7_chainsOf_68 (by decide) ?_
          refine g_lv [1, 2, 3, 4, 0] [(0, .ref a0), (1, .int p1), (2, .int p2), (3, .int v1.1), (4, .int (v7.1 + 1))] rfl ?_
          exact hk2 ((v7.1 + 1), (upd v7.2 (ix v1.1) ((v7.2 (ix v1.1)) + 0))) (Option.some.inj h).symm
        · replace h := it_f c13 h
          refine g_aload_n C dX7_chainsOf_52 rfl 0 rfl ?_
          refine g_get C 7 37 gin7 0 rfl rfl 20 (by decide) mw_5_105 rfl rfl dX7_chainsOf_53 ?_
          refine g_iload C dX7_chainsOf_56 4 rfl ?_
          obtain ⟨hi15, h⟩ := ck_of h
          refine g_iald C 3 rfl hi15 dX7_chainsOf_58 ?_
          refine g_goto C 63 dX7_chainsOf_59 (by decide) ?_
          refine g_iadd C dX7_chainsOf_63 ?_
          obtain ⟨hi16, h⟩ := ck_of h
          refine g_iast C 3 rfl hi16 [(a0, .inr (7, [.int (q7_thrown o0), .ref a0_buffer, .int (q7_length o0), .int (q7_at o0), .int (q7_from o0), .int (q7_kind o0), .int (q7_number o0), .int (q7_wrong o0), .ref a0_now, .ref a0_made, .ref a0_history, .ref a0_saved, .int (q7_entries o0), .int (q7_isSaved o0), .ref a0_closed, .ref a0_faces, .ref a0_rankOf, .ref a0_placeOf, .int (q7_faceMany o0), .int (q7_isLaid o0), .ref a0_counted, .ref a0_steps, .ref a0_onto, .ref a0_goes, .int (q7_found o0), .int (q7_images o0), .ref a0_firstImage, .int (q7_gathered o0)])), (a0_closed, .inl (zI Z, 256, .inl (q7_closed o0))), (a0_faces, .inl (zI Z, 256, .inl (q7_faces o0))), (a0_counted, .inl (zI Z, 256, .inl (upd v7.2 (ix v1.1) ((v7.2 (ix v1.1)) + (v7.2 (ix v7.1))))))] rfl dX7_chainsOf_64 ?_
          refine g_iinc C (v7.1 + 1) dX7_chainsOf_65 4 rfl rfl (by decide) [(4, .int (v7.1 + 1)), (0, .ref a0), (1, .int p1), (2, .int p2), (3, .int v1.1)] rfl ?_
          refine g_goto C 29 dX7_chainsOf_68 (by decide) ?_
          refine g_lv [1, 2, 3, 4, 0] [(0, .ref a0), (1, .int p1), (2, .int p2), (3, .int v1.1), (4, .int (v7.1 + 1))] rfl ?_
          exact hk2 ((v7.1 + 1), (upd v7.2 (ix v1.1) ((v7.2 (ix v1.1)) + (v7.2 (ix v7.1))))) (Option.some.inj h).symm
    refine g_icmp_ne C 24 dX7_chainsOf_17 (by decide) (fun c17 => ?_) (fun c17 => ?_)
    · replace h := it_f c17 h
      refine g_iconst C 0 dX7_chainsOf_24 (by decide) ?_
      exact hj25 0 h
    · replace h := it_t c17 h
      refine g_iconst C 1 dX7_chainsOf_20 (by decide) ?_
      refine g_goto C 25 dX7_chainsOf_21 (by decide) ?_
      exact hj25 1 h
def fX7_chains (o0 : OX7) (p1 : Int32) (p2 : Int32) : Option (Int32 × OX7) :=
  (fX7_failsFaces (s7_thrown o0 0) p1 p2).bind fun r1 =>
  (if r1.1 = 0 then ((fX7_chainsOf (s7_isLaid (s7_faceMany (s7_placeOf (s7_rankOf (s7_faces (s7_closed (s7_thrown o0 (q7_thrown r1.2)) (q7_closed r1.2)) (q7_faces r1.2)) (q7_rankOf r1.2)) (q7_placeOf r1.2)) (q7_faceMany r1.2)) (q7_isLaid r1.2)) p1 p2).bind fun r4 =>
  (some (r4.1, (s7_counted (s7_isLaid (s7_faceMany (s7_placeOf (s7_rankOf (s7_faces (s7_closed (s7_thrown o0 (q7_thrown r1.2)) (q7_closed r1.2)) (q7_faces r1.2)) (q7_rankOf r1.2)) (q7_placeOf r1.2)) (q7_faceMany r1.2)) (q7_isLaid r1.2)) (q7_counted r4.2)))))
  else (some (0, (s7_isLaid (s7_faceMany (s7_placeOf (s7_rankOf (s7_faces (s7_closed (s7_thrown o0 (q7_thrown r1.2)) (q7_closed r1.2)) (q7_faces r1.2)) (q7_rankOf r1.2)) (q7_placeOf r1.2)) (q7_faceMany r1.2)) (q7_isLaid r1.2)))))
theorem myX7_chains : MYv yX7_chains cX7_chains 3 (some .int) 2 := ⟨mw_7_30, mw_7_31, mw_7_32, mw_1_9, ⟨by decide +kernel, by decide +kernel⟩, by decide +kernel⟩
set_option maxRecDepth 100000 in
set_option maxHeartbeats 4000000 in
theorem kX7_chains (l : Launch) (Z : GZ) (a0 a0_buffer a0_now a0_made a0_history a0_saved a0_closed a0_faces a0_rankOf a0_placeOf a0_counted a0_steps a0_onto a0_goes a0_firstImage : Nat) (o0 : OX7) (p1 : Int32) (p2 : Int32) (res : Int32 × OX7) (h : fX7_chains o0 p1 p2 = some res) : MI l Z yX7_chains cX7_chains 3 .int 6 132 [.ref a0, .int p1, .int p2] [(a0, .inr (7, [.int (q7_thrown o0), .ref a0_buffer, .int (q7_length o0), .int (q7_at o0), .int (q7_from o0), .int (q7_kind o0), .int (q7_number o0), .int (q7_wrong o0), .ref a0_now, .ref a0_made, .ref a0_history, .ref a0_saved, .int (q7_entries o0), .int (q7_isSaved o0), .ref a0_closed, .ref a0_faces, .ref a0_rankOf, .ref a0_placeOf, .int (q7_faceMany o0), .int (q7_isLaid o0), .ref a0_counted, .ref a0_steps, .ref a0_onto, .ref a0_goes, .int (q7_found o0), .int (q7_images o0), .ref a0_firstImage, .int (q7_gathered o0)])), (a0_now, .inl (zI Z, 12, .inl (q7_now o0))), (a0_closed, .inl (zI Z, 256, .inl (q7_closed o0))), (a0_faces, .inl (zI Z, 256, .inl (q7_faces o0))), (a0_rankOf, .inl (zI Z, 256, .inl (q7_rankOf o0))), (a0_placeOf, .inl (zI Z, 256, .inl (q7_placeOf o0))), (a0_counted, .inl (zI Z, 256, .inl (q7_counted o0)))] res.1 [(a0, .inr (7, [.int (q7_thrown res.2), .ref a0_buffer, .int (q7_length o0), .int (q7_at o0), .int (q7_from o0), .int (q7_kind o0), .int (q7_number o0), .int (q7_wrong o0), .ref a0_now, .ref a0_made, .ref a0_history, .ref a0_saved, .int (q7_entries o0), .int (q7_isSaved o0), .ref a0_closed, .ref a0_faces, .ref a0_rankOf, .ref a0_placeOf, .int (q7_faceMany res.2), .int (q7_isLaid res.2), .ref a0_counted, .ref a0_steps, .ref a0_onto, .ref a0_goes, .int (q7_found o0), .int (q7_images o0), .ref a0_firstImage, .int (q7_gathered o0)])), (a0_now, .inl (zI Z, 12, .inl (q7_now o0))), (a0_closed, .inl (zI Z, 256, .inl (q7_closed res.2))), (a0_faces, .inl (zI Z, 256, .inl (q7_faces res.2))), (a0_rankOf, .inl (zI Z, 256, .inl (q7_rankOf res.2))), (a0_placeOf, .inl (zI Z, 256, .inl (q7_placeOf res.2))), (a0_counted, .inl (zI Z, 256, .inl (q7_counted res.2)))] := by
  refine MI_of (by decide +kernel) (Nat.le_of_ble_eq_true rfl) (fun {p e s m args below meth c} A R hR Q hQ C hr hlk => ?_)
  unfold fX7_chains at h
  refine g_lv [0, 1, 2] [(0, .ref a0), (1, .int p1), (2, .int p2)] rfl ?_
  refine g_aload_n C dX7_chains_0 rfl 0 rfl ?_
  refine g_iconst C 0 dX7_chains_1 (by decide) ?_
  refine g_put C 7 52 gin7 tyX7 tyX7_ok nmX7 0 rfl rfl 0 (by decide) mw_5_85 rfl rfl (ty := .int) (by decide +kernel) rfl rfl (Nat.le_of_ble_eq_true rfl) [(a0, .inr (7, [.int 0, .ref a0_buffer, .int (q7_length o0), .int (q7_at o0), .int (q7_from o0), .int (q7_kind o0), .int (q7_number o0), .int (q7_wrong o0), .ref a0_now, .ref a0_made, .ref a0_history, .ref a0_saved, .int (q7_entries o0), .int (q7_isSaved o0), .ref a0_closed, .ref a0_faces, .ref a0_rankOf, .ref a0_placeOf, .int (q7_faceMany o0), .int (q7_isLaid o0), .ref a0_counted, .ref a0_steps, .ref a0_onto, .ref a0_goes, .int (q7_found o0), .int (q7_images o0), .ref a0_firstImage, .int (q7_gathered o0)])), (a0_now, .inl (zI Z, 12, .inl (q7_now o0))), (a0_closed, .inl (zI Z, 256, .inl (q7_closed o0))), (a0_faces, .inl (zI Z, 256, .inl (q7_faces o0))), (a0_rankOf, .inl (zI Z, 256, .inl (q7_rankOf o0))), (a0_placeOf, .inl (zI Z, 256, .inl (q7_placeOf o0))), (a0_counted, .inl (zI Z, 256, .inl (q7_counted o0)))] rfl dX7_chains_2 ?_
  refine g_aload_n C dX7_chains_5 rfl 0 rfl ?_
  refine g_iload_n C dX7_chains_6 rfl 1 rfl ?_
  refine g_iload_n C dX7_chains_7 rfl 2 rfl ?_
  obtain ⟨r1, hr2, h⟩ := bd_of h
  refine g_callVi C (kX7_failsFaces l Z a0 a0_buffer a0_now a0_made a0_history a0_saved a0_closed a0_faces a0_rankOf a0_placeOf a0_counted a0_steps a0_onto a0_goes a0_firstImage (s7_thrown o0 0) p1 p2 r1 hr2) 0 rfl (ci := 7) rfl rfl myX7_failsFaces 269 mw_7_9 rfl [0, 1, 2, 3, 4, 5] [6] [1, 2, 3, 4, 5, 6, 0] (wr := [(a0_counted, .inl (zI Z, 256, .inl (q7_counted o0)))]) rfl rfl (by decide) (by decide) (by decide) [(a0, .inr (7, [.int (q7_thrown r1.2), .ref a0_buffer, .int (q7_length o0), .int (q7_at o0), .int (q7_from o0), .int (q7_kind o0), .int (q7_number o0), .int (q7_wrong o0), .ref a0_now, .ref a0_made, .ref a0_history, .ref a0_saved, .int (q7_entries o0), .int (q7_isSaved o0), .ref a0_closed, .ref a0_faces, .ref a0_rankOf, .ref a0_placeOf, .int (q7_faceMany r1.2), .int (q7_isLaid r1.2), .ref a0_counted, .ref a0_steps, .ref a0_onto, .ref a0_goes, .int (q7_found o0), .int (q7_images o0), .ref a0_firstImage, .int (q7_gathered o0)])), (a0_now, .inl (zI Z, 12, .inl (q7_now o0))), (a0_closed, .inl (zI Z, 256, .inl (q7_closed r1.2))), (a0_faces, .inl (zI Z, 256, .inl (q7_faces r1.2))), (a0_rankOf, .inl (zI Z, 256, .inl (q7_rankOf r1.2))), (a0_placeOf, .inl (zI Z, 256, .inl (q7_placeOf r1.2))), (a0_counted, .inl (zI Z, 256, .inl (q7_counted o0)))] rfl (by decide) (Nat.le_of_ble_eq_true rfl) (by rw [hR]; exact Nat.le_of_ble_eq_true rfl) (by rw [hR]; exact Nat.le_of_ble_eq_true rfl) ⟨by rw [hR]; exact Nat.le_of_ble_eq_true rfl, by rw [hR]; exact Nat.le_of_ble_eq_true rfl⟩ rfl dX7_chains_8 ?_
  refine g_if_eq C 18 dX7_chains_11 (by decide) (fun c3 => ?_) (fun c3 => ?_)
  · replace h := it_t c3 h
    refine g_aload_n C dX7_chains_18 rfl 0 rfl ?_
    refine g_iload_n C dX7_chains_19 rfl 1 rfl ?_
    refine g_iload_n C dX7_chains_20 rfl 2 rfl ?_
    obtain ⟨r4, hr5, h⟩ := bd_of h
    refine g_callVi C (kX7_chainsOf l Z a0 a0_buffer a0_now a0_made a0_history a0_saved a0_closed a0_faces a0_rankOf a0_placeOf a0_counted a0_steps a0_onto a0_goes a0_firstImage (s7_isLaid (s7_faceMany (s7_placeOf (s7_rankOf (s7_faces (s7_closed (s7_thrown o0 (q7_thrown r1.2)) (q7_closed r1.2)) (q7_faces r1.2)) (q7_rankOf r1.2)) (q7_placeOf r1.2)) (q7_faceMany r1.2)) (q7_isLaid r1.2)) p1 p2 r4 hr5) 0 rfl (ci := 7) rfl rfl myX7_chainsOf 278 mw_7_33 rfl [0, 2, 3, 6] [1, 4, 5] [3, 0, 4, 5, 1, 2, 6] (wr := [(a0_now, .inl (zI Z, 12, .inl (q7_now o0))), (a0_rankOf, .inl (zI Z, 256, .inl (q7_rankOf r1.2))), (a0_placeOf, .inl (zI Z, 256, .inl (q7_placeOf r1.2)))]) rfl rfl (by decide) (by decide) (by decide) [(a0, .inr (7, [.int (q7_thrown r1.2), .ref a0_buffer, .int (q7_length o0), .int (q7_at o0), .int (q7_from o0), .int (q7_kind o0), .int (q7_number o0), .int (q7_wrong o0), .ref a0_now, .ref a0_made, .ref a0_history, .ref a0_saved, .int (q7_entries o0), .int (q7_isSaved o0), .ref a0_closed, .ref a0_faces, .ref a0_rankOf, .ref a0_placeOf, .int (q7_faceMany r1.2), .int (q7_isLaid r1.2), .ref a0_counted, .ref a0_steps, .ref a0_onto, .ref a0_goes, .int (q7_found o0), .int (q7_images o0), .ref a0_firstImage, .int (q7_gathered o0)])), (a0_now, .inl (zI Z, 12, .inl (q7_now o0))), (a0_closed, .inl (zI Z, 256, .inl (q7_closed r1.2))), (a0_faces, .inl (zI Z, 256, .inl (q7_faces r1.2))), (a0_rankOf, .inl (zI Z, 256, .inl (q7_rankOf r1.2))), (a0_placeOf, .inl (zI Z, 256, .inl (q7_placeOf r1.2))), (a0_counted, .inl (zI Z, 256, .inl (q7_counted r4.2)))] rfl (by decide) (Nat.le_of_ble_eq_true rfl) (by rw [hR]; exact Nat.le_of_ble_eq_true rfl) (by rw [hR]; exact Nat.le_of_ble_eq_true rfl) ⟨by rw [hR]; exact Nat.le_of_ble_eq_true rfl, by rw [hR]; exact Nat.le_of_ble_eq_true rfl⟩ rfl dX7_chains_21 ?_
    obtain rfl := Option.some.inj h
    subst hQ
    exact g_iret C rfl hr hlk dX7_chains_24 [0, 1, 2, 3, 4, 5, 6] rfl (by decide)
  · replace h := it_f c3 h
    refine g_iconst C 0 dX7_chains_14 (by decide) ?_
    refine g_goto C 24 dX7_chains_15 (by decide) ?_
    obtain rfl := Option.some.inj h
    subst hQ
    exact g_iret C rfl hr hlk dX7_chains_24 [0, 1, 2, 3, 4, 5, 6] rfl (by decide)

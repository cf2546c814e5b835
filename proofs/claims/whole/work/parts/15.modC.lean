def fX7_layMobius_L28 (o0 : OX7) (p1 : Int32) (v1 : Int32 × (Nat → Int32)) (v6 : Int32 × (Nat → Int32)) : Option ((Int32 × (Nat → Int32)) ⊕ ((Int32 × (Nat → Int32)) ⊕ (OX7))) :=
  if v1.1 ≤ v6.1 then (ex (some (.inl ((v1.1 + 1), v6.2))))
  else (if v1.1 = p1 then (ex (some (.inl ((v1.1 + 1), v6.2))))
  else ((fX7_isIn (s7_counted o0 v6.2) p1 v1.1).bind fun r11 =>
  (if r11 = 0 then (ex (some (.inl ((v1.1 + 1), v6.2))))
  else (ck (okI v1.1 256) ((fX7_isIn (s7_counted o0 v6.2) p1 v6.1).bind fun r16 =>
  (if r16 = 0 then (ck (okI v1.1 256) (some (.inl ((v6.1 + 1), (upd v6.2 (ix v1.1) ((v6.2 (ix v1.1)) - 0))))))
  else ((fX7_isIn (s7_counted o0 v6.2) v6.1 v1.1).bind fun r20 =>
  (if r20 = 0 then (ck (okI v1.1 256) (some (.inl ((v6.1 + 1), (upd v6.2 (ix v1.1) ((v6.2 (ix v1.1)) - 0))))))
  else (ck (okI v6.1 256) (ck (okI v1.1 256) (some (.inl ((v6.1 + 1), (upd v6.2 (ix v1.1) ((v6.2 (ix v1.1)) - (v6.2 (ix v6.1)))))))))))))))))
def fX7_layMobius_J25 (o0 : OX7) (p1 : Int32) (v1 : Int32 × (Nat → Int32)) (x4 : Int32) : Option ((Int32 × (Nat → Int32)) ⊕ (OX7)) :=
  ck (okI v1.1 256) (lp (fX7_layMobius_L28 o0 p1 v1) lpN (0, (upd v1.2 (ix v1.1) x4)))
def fX7_layMobius_L2 (o0 : OX7) (p1 : Int32) (v1 : Int32 × (Nat → Int32)) : Option ((Int32 × (Nat → Int32)) ⊕ (OX7)) :=
  if (q7_faceMany o0) ≤ v1.1 then (ex (some (s7_counted o0 v1.2)))
  else (if v1.1 = p1 then (fX7_layMobius_J25 o0 p1 v1 1)
  else (fX7_layMobius_J25 o0 p1 v1 0))
def fX7_layMobius (o0 : OX7) (p1 : Int32) : Option (OX7) :=
  lp (fX7_layMobius_L2 o0 p1) lpN (0, (q7_counted o0))
theorem myX7_layMobius : MYv yX7_layMobius cX7_layMobius 4 none 1 := ⟨mw_7_43, ms_74, mw_7_44, mw_1_9, ⟨by decide +kernel, by decide +kernel⟩, by decide +kernel⟩
set_option maxRecDepth 100000 in
set_option maxHeartbeats 4000000 in
theorem kX7_layMobius (l : Launch) (Z : GZ) (a0 a0_buffer a0_now a0_made a0_history a0_saved a0_closed a0_faces a0_rankOf a0_placeOf a0_counted a0_steps a0_onto a0_goes a0_firstImage : Nat) (o0 : OX7) (p1 : Int32) (res : OX7) (h : fX7_layMobius o0 p1 = some res) : MV l Z yX7_layMobius cX7_layMobius 4 2 43 [.ref a0, .int p1] [(a0, .inr (7, [.int (q7_thrown o0), .ref a0_buffer, .int (q7_length o0), .int (q7_at o0), .int (q7_from o0), .int (q7_kind o0), .int (q7_number o0), .int (q7_wrong o0), .ref a0_now, .ref a0_made, .ref a0_history, .ref a0_saved, .int (q7_entries o0), .int (q7_isSaved o0), .ref a0_closed, .ref a0_faces, .ref a0_rankOf, .ref a0_placeOf, .int (q7_faceMany o0), .int (q7_isLaid o0), .ref a0_counted, .ref a0_steps, .ref a0_onto, .ref a0_goes, .int (q7_found o0), .int (q7_images o0), .ref a0_firstImage, .int (q7_gathered o0)])), (a0_faces, .inl (zI Z, 256, .inl (q7_faces o0))), (a0_counted, .inl (zI Z, 256, .inl (q7_counted o0)))] [(a0, .inr (7, [.int (q7_thrown o0), .ref a0_buffer, .int (q7_length o0), .int (q7_at o0), .int (q7_from o0), .int (q7_kind o0), .int (q7_number o0), .int (q7_wrong o0), .ref a0_now, .ref a0_made, .ref a0_history, .ref a0_saved, .int (q7_entries o0), .int (q7_isSaved o0), .ref a0_closed, .ref a0_faces, .ref a0_rankOf, .ref a0_placeOf, .int (q7_faceMany o0), .int (q7_isLaid o0), .ref a0_counted, .ref a0_steps, .ref a0_onto, .ref a0_goes, .int (q7_found o0), .int (q7_images o0), .ref a0_firstImage, .int (q7_gathered o0)])), (a0_faces, .inl (zI Z, 256, .inl (q7_faces o0))), (a0_counted, .inl (zI Z, 256, .inl (q7_counted res)))] := by
  refine MV_of (by decide +kernel) (Nat.le_of_ble_eq_true rfl) (fun {p e s m args below meth c} A R hR Q hQ C hr hlk => ?_)
  unfold fX7_layMobius at h
  refine g_lv [0, 1] [(0, .ref a0), (1, .int p1)] rfl ?_
  refine g_iconst C 0 dX7_layMobius_0 (by decide) ?_
  refine g_istore_n C dX7_layMobius_1 rfl (by decide) [(2, .int 0), (0, .ref a0), (1, .int p1)] rfl ?_
  refine g_lv [1, 2, 0] [(0, .ref a0), (1, .int p1), (2, .int 0)] rfl ?_
  refine g_loop (lvf := fun v1 => [(0, .ref a0), (1, .int p1), (2, .int v1.1)]) (wsf := fun v1 => [(a0, .inr (7, [.int (q7_thrown o0), .ref a0_buffer, .int (q7_length o0), .int (q7_at o0), .int (q7_from o0), .int (q7_kind o0), .int (q7_number o0), .int (q7_wrong o0), .ref a0_now, .ref a0_made, .ref a0_history, .ref a0_saved, .int (q7_entries o0), .int (q7_isSaved o0), .ref a0_closed, .ref a0_faces, .ref a0_rankOf, .ref a0_placeOf, .int (q7_faceMany o0), .int (q7_isLaid o0), .ref a0_counted, .ref a0_steps, .ref a0_onto, .ref a0_goes, .int (q7_found o0), .int (q7_images o0), .ref a0_firstImage, .int (q7_gathered o0)])), (a0_faces, .inl (zI Z, 256, .inl (q7_faces o0))), (a0_counted, .inl (zI Z, 256, .inl v1.2))]) h (fun v1 y1 h hk1 hx1 => ?_)
  refine g_eq (lv1 := [(0, .ref a0), (1, .int p1), (2, .int v1.1)]) (st1 := []) (ws1 := [(a0, .inr (7, [.int (q7_thrown o0), .ref a0_buffer, .int (q7_length o0), .int (q7_at o0), .int (q7_from o0), .int (q7_kind o0), .int (q7_number o0), .int (q7_wrong o0), .ref a0_now, .ref a0_made, .ref a0_history, .ref a0_saved, .int (q7_entries o0), .int (q7_isSaved o0), .ref a0_closed, .ref a0_faces, .ref a0_rankOf, .ref a0_placeOf, .int (q7_faceMany o0), .int (q7_isLaid o0), .ref a0_counted, .ref a0_steps, .ref a0_onto, .ref a0_goes, .int (q7_found o0), .int (q7_images o0), .ref a0_firstImage, .int (q7_gathered o0)])), (a0_faces, .inl (zI Z, 256, .inl (q7_faces o0))), (a0_counted, .inl (zI Z, 256, .inl v1.2))]) rfl rfl rfl rfl ?_
  unfold fX7_layMobius_L2 at h
  refine g_iload_n C dX7_layMobius_2 rfl 2 rfl ?_
  refine g_aload_n C dX7_layMobius_3 rfl 0 rfl ?_
  refine g_get C 7 214 gin7 0 rfl rfl 18 (by decide) mw_5_103 rfl rfl dX7_layMobius_4 ?_
  refine g_icmp_ge C 96 dX7_layMobius_7 (by decide) (fun c2 => ?_) (fun c2 => ?_)
  · replace h := it_t c2 h
    obtain ⟨r3, h, hy⟩ := ex_of h
    rw [hx1 r3 hy] at h
    obtain rfl := Option.some.inj h
    subst hQ
    exact g_vret C hr hlk dX7_layMobius_96 [0, 1, 2] rfl (by decide)
  · replace h := it_f c2 h
    refine g_aload_n C dX7_layMobius_10 rfl 0 rfl ?_
    refine g_get C 7 37 gin7 0 rfl rfl 20 (by decide) mw_5_105 rfl rfl dX7_layMobius_11 ?_
    refine g_iload_n C dX7_layMobius_14 rfl 2 rfl ?_
    refine g_iload_n C dX7_layMobius_15 rfl 2 rfl ?_
    refine g_iload_n C dX7_layMobius_16 rfl 1 rfl ?_
    have hj25 : ∀ (x4 : Int32), fX7_layMobius_J25 o0 p1 v1 x4 = some y1 → Gw p l e R s m args below meth c 4 Z A Q 0 0 25 [(0, .ref a0), (1, .int p1), (2, .int v1.1)] [.int x4, .int v1.1, .ref a0_counted] [(a0, .inr (7, [.int (q7_thrown o0), .ref a0_buffer, .int (q7_length o0), .int (q7_at o0), .int (q7_from o0), .int (q7_kind o0), .int (q7_number o0), .int (q7_wrong o0), .ref a0_now, .ref a0_made, .ref a0_history, .ref a0_saved, .int (q7_entries o0), .int (q7_isSaved o0), .ref a0_closed, .ref a0_faces, .ref a0_rankOf, .ref a0_placeOf, .int (q7_faceMany o0), .int (q7_isLaid o0), .ref a0_counted, .ref a0_steps, .ref a0_onto, .ref a0_goes, .int (q7_found o0), .int (q7_images o0), .ref a0_firstImage, .int (q7_gathered o0)])), (a0_faces, .inl (zI Z, 256, .inl (q7_faces o0))), (a0_counted, .inl (zI Z, 256, .inl v1.2))] := by
      intro x4 h
      unfold fX7_layMobius_J25 at h
      obtain ⟨hi5, h⟩ := ck_of h
      refine g_iast C 2 rfl hi5 [(a0, .inr (7, [.int (q7_thrown o0), .ref a0_buffer, .int (q7_length o0), .int (q7_at o0), .int (q7_from o0), .int (q7_kind o0), .int (q7_number o0), .int (q7_wrong o0), .ref a0_now, .ref a0_made, .ref a0_history, .ref a0_saved, .int (q7_entries o0), .int (q7_isSaved o0), .ref a0_closed, .ref a0_faces, .ref a0_rankOf, .ref a0_placeOf, .int (q7_faceMany o0), .int (q7_isLaid o0), .ref a0_counted, .ref a0_steps, .ref a0_onto, .ref a0_goes, .int (q7_found o0), .int (q7_images o0), .ref a0_firstImage, .int (q7_gathered o0)])), (a0_faces, .inl (zI Z, 256, .inl (q7_faces o0))), (a0_counted, .inl (zI Z, 256, .inl (upd v1.2 (ix v1.1) x4)))] rfl dX7_layMobius_25 ?_
      refine g_iconst C 0 dX7_layMobius_26 (by decide) ?_
      refine g_istore_n C dX7_layMobius_27 rfl (by decide) [(3, .int 0), (0, .ref a0), (1, .int p1), (2, .int v1.1)] rfl ?_
      refine g_lv [1, 2, 3, 0] [(0, .ref a0), (1, .int p1), (2, .int v1.1), (3, .int 0)] rfl ?_
      refine g_loop (lvf := fun v6 => [(0, .ref a0), (1, .int p1), (2, .int v1.1), (3, .int v6.1)]) (wsf := fun v6 => [(a0, .inr (7, [.int (q7_thrown o0), .ref a0_buffer, .int (q7_length o0), .int (q7_at o0), .int (q7_from o0), .int (q7_kind o0), .int (q7_number o0), .int (q7_wrong o0), .ref a0_now, .ref a0_made, .ref a0_history, .ref a0_saved, .int (q7_entries o0), .int (q7_isSaved o0), .ref a0_closed, .ref a0_faces, .ref a0_rankOf, .ref a0_placeOf, .int (q7_faceMany o0), .int (q7_isLaid o0), .ref a0_counted, .ref a0_steps, .ref a0_onto, .ref a0_goes, .int (q7_found o0), .int (q7_images o0), .ref a0_firstImage, .int (q7_gathered o0)])), (a0_faces, .inl (zI Z, 256, .inl (q7_faces o0))), (a0_counted, .inl (zI Z, 256, .inl v6.2))]) h (fun v6 y2 h hk2 hx2 => ?_)
      refine g_eq (lv1 := [(0, .ref a0), (1, .int p1), (2, .int v1.1), (3, .int v6.1)]) (st1 := []) (ws1 := [(a0, .inr (7, [.int (q7_thrown o0), .ref a0_buffer, .int (q7_length o0), .int (q7_at o0), .int (q7_from o0), .int (q7_kind o0), .int (q7_number o0), .int (q7_wrong o0), .ref a0_now, .ref a0_made, .ref a0_history, .ref a0_saved, .int (q7_entries o0), .int (q7_isSaved o0), .ref a0_closed, .ref a0_faces, .ref a0_rankOf, .ref a0_placeOf, .int (q7_faceMany o0), .int (q7_isLaid o0), .ref a0_counted, .ref a0_steps, .ref a0_onto, .ref a0_goes, .int (q7_found o0), .int (q7_images o0), .ref a0_firstImage, .int (q7_gathered o0)])), (a0_faces, .inl (zI Z, 256, .inl (q7_faces o0))), (a0_counted, .inl (zI Z, 256, .inl v6.2))]) rfl rfl rfl rfl ?_
      unfold fX7_layMobius_L28 at h
      refine g_iload_n C dX7_layMobius_28 rfl 3 rfl ?_
      refine g_iload_n C dX7_layMobius_29 rfl 2 rfl ?_
      refine g_icmp_ge C 90 dX7_layMobius_30 (by decide) (fun c7 => ?_) (fun c7 => ?_)
      · replace h := it_t c7 h
        obtain ⟨r8, h, hy⟩ := ex_of h
        rw [hx2 r8 hy] at h
        refine g_iinc C (v1.1 + 1) dX7_layMobius_90 2 rfl rfl (by decide) [(2, .int (v1.1 + 1)), (0, .ref a0), (1, .int p1), (3, .int v6.1)] rfl ?_
        refine g_goto C 2 dX7_layMobius_93 (by decide) ?_
        refine g_lv [1, 2, 0] [(0, .ref a0), (1, .int p1), (2, .int (v1.1 + 1))] rfl ?_
        exact hk1 ((v1.1 + 1), v6.2) (Option.some.inj h).symm
      · replace h := it_f c7 h
        refine g_iload_n C dX7_layMobius_33 rfl 2 rfl ?_
        refine g_iload_n C dX7_layMobius_34 rfl 1 rfl ?_
        refine g_icmp_eq C 90 dX7_layMobius_35 (by decide) (fun c9 => ?_) (fun c9 => ?_)
        · replace h := it_t c9 h
          obtain ⟨r10, h, hy⟩ := ex_of h
          rw [hx2 r10 hy] at h
          refine g_iinc C (v1.1 + 1) dX7_layMobius_90 2 rfl rfl (by decide) [(2, .int (v1.1 + 1)), (0, .ref a0), (1, .int p1), (3, .int v6.1)] rfl ?_
          refine g_goto C 2 dX7_layMobius_93 (by decide) ?_
          refine g_lv [1, 2, 0] [(0, .ref a0), (1, .int p1), (2, .int (v1.1 + 1))] rfl ?_
          exact hk1 ((v1.1 + 1), v6.2) (Option.some.inj h).symm
        · replace h := it_f c9 h
          refine g_aload_n C dX7_layMobius_38 rfl 0 rfl ?_
          refine g_iload_n C dX7_layMobius_39 rfl 1 rfl ?_
          refine g_iload_n C dX7_layMobius_40 rfl 2 rfl ?_
          obtain ⟨r11, hr12, h⟩ := bd_of h
          refine g_callVi C (kX7_isIn l Z a0 a0_buffer a0_now a0_made a0_history a0_saved a0_closed a0_faces a0_rankOf a0_placeOf a0_counted a0_steps a0_onto a0_goes a0_firstImage (s7_counted o0 v6.2) p1 v1.1 r11 hr12) 0 rfl (ci := 7) rfl rfl myX7_isIn 272 mw_7_25 rfl [0, 1] [2] [1, 2, 0] (wr := [(a0_counted, .inl (zI Z, 256, .inl v6.2))]) rfl rfl (by decide) (by decide) (by decide) [(a0, .inr (7, [.int (q7_thrown o0), .ref a0_buffer, .int (q7_length o0), .int (q7_at o0), .int (q7_from o0), .int (q7_kind o0), .int (q7_number o0), .int (q7_wrong o0), .ref a0_now, .ref a0_made, .ref a0_history, .ref a0_saved, .int (q7_entries o0), .int (q7_isSaved o0), .ref a0_closed, .ref a0_faces, .ref a0_rankOf, .ref a0_placeOf, .int (q7_faceMany o0), .int (q7_isLaid o0), .ref a0_counted, .ref a0_steps, .ref a0_onto, .ref a0_goes, .int (q7_found o0), .int (q7_images o0), .ref a0_firstImage, .int (q7_gathered o0)])), (a0_faces, .inl (zI Z, 256, .inl (q7_faces o0))), (a0_counted, .inl (zI Z, 256, .inl v6.2))] rfl (by decide) (Nat.le_of_ble_eq_true rfl) (by rw [hR]; exact Nat.le_of_ble_eq_true rfl) (by rw [hR]; exact Nat.le_of_ble_eq_true rfl) ⟨by rw [hR]; exact Nat.le_of_ble_eq_true rfl, by rw [hR]; exact Nat.le_of_ble_eq_true rfl⟩ rfl dX7_layMobius_41 ?_
          refine g_if_eq C 90 dX7_layMobius_44 (by decide) (fun c13 => ?_) (fun c13 => ?_)
          · replace h := it_t c13 h
            obtain ⟨r14, h, hy⟩ := ex_of h
            rw [hx2 r14 hy] at h
            refine g_iinc C (v1.1 + 1) dX7_layMobius_90 2 rfl rfl (by decide) [(2, .int (v1.1 + 1)), (0, .ref a0), (1, .int p1), (3, .int v6.1)] rfl ?_
            refine g_goto C 2 dX7_layMobius_93 (by decide) ?_
            refine g_lv [1, 2, 0] [(0, .ref a0), (1, .int p1), (2, .int (v1.1 + 1))] rfl ?_
            exact hk1 ((v1.1 + 1), v6.2) (Option.some.inj h).symm
          · replace h := it_f c13 h
            refine g_aload_n C dX7_layMobius_47 rfl 0 rfl ?_
            refine g_get C 7 37 gin7 0 rfl rfl 20 (by decide) mw_5_105 rfl rfl dX7_layMobius_48 ?_
            refine g_iload_n C dX7_layMobius_51 rfl 2 rfl ?_
            refine g_dup2 C dX7_layMobius_52 rfl rfl ?_
            obtain ⟨hi15, h⟩ := ck_of h
            refine g_iald C 2 rfl hi15 dX7_layMobius_53 ?_
            refine g_aload_n C dX7_layMobius_54 rfl 0 rfl ?_
            refine g_iload_n C dX7_layMobius_55 rfl 1 rfl ?_
            refine g_iload_n C dX7_layMobius_56 rfl 3 rfl ?_
            obtain ⟨r16, hr17, h⟩ := bd_of h
            refine g_callVi C (kX7_isIn l Z a0 a0_buffer a0_now a0_made a0_history a0_saved a0_closed a0_faces a0_rankOf a0_placeOf a0_counted a0_steps a0_onto a0_goes a0_firstImage (s7_counted o0 v6.2) p1 v6.1 r16 hr17) 0 rfl (ci := 7) rfl rfl myX7_isIn 272 mw_7_25 rfl [0, 1] [2] [1, 2, 0] (wr := [(a0_counted, .inl (zI Z, 256, .inl v6.2))]) rfl rfl (by decide) (by decide) (by decide) [(a0, .inr (7, [.int (q7_thrown o0), .ref a0_buffer, .int (q7_length o0), .int (q7_at o0), .int (q7_from o0), .int (q7_kind o0), .int (q7_number o0), .int (q7_wrong o0), .ref a0_now, .ref a0_made, .ref a0_history, .ref a0_saved, .int (q7_entries o0), .int (q7_isSaved o0), .ref a0_closed, .ref a0_faces, .ref a0_rankOf, .ref a0_placeOf, .int (q7_faceMany o0), .int (q7_isLaid o0), .ref a0_counted, .ref a0_steps, .ref a0_onto, .ref a0_goes, .int (q7_found o0), .int (q7_images o0), .ref a0_firstImage, .int (q7_gathered o0)])), (a0_faces, .inl (zI Z, 256, .inl (q7_faces o0))), (a0_counted, .inl (zI Z, 256, .inl v6.2))] rfl (by decide) (Nat.le_of_ble_eq_true rfl) (by rw [hR]; exact Nat.le_of_ble_eq_true rfl) (by rw [hR]; exact Nat.le_of_ble_eq_true rfl) ⟨by rw [hR]; exact Nat.le_of_ble_eq_true rfl, by rw [hR]; exact Nat.le_of_ble_eq_true rfl⟩ rfl dX7_layMobius_57 ?_
            refine g_if_eq C 81 dX7_layMobius_60 (by decide) (fun c18 => ?_) (fun c18 => ?_)
            · replace h := it_t c18 h
              refine g_iconst C 0 dX7_layMobius_81 (by decide) ?_
              refine g_isub C dX7_layMobius_82 ?_
              obtain ⟨hi19, h⟩ := ck_of h
              refine g_iast C 2 rfl hi19 [(a0, .inr (7, [.int (q7_thrown o0), .ref a0_buffer, .int (q7_length o0), .int (q7_at o0), .int (q7_from o0), .int (q7_kind o0), .int (q7_number o0), .int (q7_wrong o0), .ref a0_now, .ref a0_made, .ref a0_history, .ref a0_saved, .int (q7_entries o0), .int (q7_isSaved o0), .ref a0_closed, .ref a0_faces, .ref a0_rankOf, .ref a0_placeOf, .int (q7_faceMany o0), .int (q7_isLaid o0), .ref a0_counted, .ref a0_steps, .ref a0_onto, .ref a0_goes, .int (q7_found o0), .int (q7_images o0), .ref a0_firstImage, .int (q7_gathered o0)])), (a0_faces, .inl (zI Z, 256, .inl (q7_faces o0))), (a0_counted, .inl (zI Z, 256, .inl (upd v6.2 (ix v1.1) ((v6.2 (ix v1.1)) - 0))))] rfl dX7_layMobius_83 ?_
              refine g_iinc C (v6.1 + 1) dX7_layMobius_84 3 rfl rfl (by decide) [(3, .int (v6.1 + 1)), (0, .ref a0), (1, .int p1), (2, .int v1.1)] rfl ?_
              refine g_goto C 28 dX7_layMobius_87 (by decide) ?_
              refine g_lv [1, 2, 3, 0] [(0, .ref a0), (1, .int p1), (2, .int v1.1), (3, .int (v6.1 + 1))] rfl ?_
              exact hk2 ((v6.1 + 1), (upd v6.2 (ix v1.1) ((v6.2 (ix v1.1)) - 0))) (Option.some.inj h).symm
            · replace h := it_f c18 h
              refine g_aload_n C dX7_layMobius_63 rfl 0 rfl ?_
              refine g_iload_n C dX7_layMobius_64 rfl 3 rfl ?_
              refine g_iload_n C dX7_layMobius_65 rfl 2 rfl ?_
              obtain ⟨r20, hr21, h⟩ := bd_of h
              refine g_callVi C (kX7_isIn l Z a0 a0_buffer a0_now a0_made a0_history a0_saved a0_closed a0_faces a0_rankOf a0_placeOf a0_counted a0_steps a0_onto a0_goes a0_firstImage (s7_counted o0 v6.2) v6.1 v1.1 r20 hr21) 0 rfl (ci := 7) rfl rfl myX7_isIn 272 mw_7_25 rfl [0, 1] [2] [1, 2, 0] (wr := [(a0_counted, .inl (zI Z, 256, .inl v6.2))]) rfl rfl (by decide) (by decide) (by decide) [(a0, .inr (7, [.int (q7_thrown o0), .ref a0_buffer, .int (q7_length o0), .int (q7_at o0), .int (q7_from o0), .int (q7_kind o0), .int (q7_number o0), .int (q7_wrong o0), .ref a0_now, .ref a0_made, .ref a0_history, .ref a0_saved, .int (q7_entries o0), .int (q7_isSaved o0), .ref a0_closed, .ref a0_faces, .ref a0_rankOf, .ref a0_placeOf, .int (q7_faceMany o0), .int (q7_isLaid o0), .ref a0_counted, .ref a0_steps, .ref a0_onto, .ref a0_goes, .int (q7_found o0), .int (q7_images o0), .ref a0_firstImage, .int (q7_gathered o0)])), (a0_faces, .inl (zI Z, 256, .inl (q7_faces o0))), (a0_counted, .inl (zI Z, 256, .inl v6.2))] rfl (by decide) (Nat.le_of_ble_eq_true rfl) (by rw [hR]; exact Nat.le_of_ble_eq_true rfl) (by rw [hR]; exact Nat.le_of_ble_eq_true rfl) ⟨by rw [hR]; exact Nat.le_of_ble_eq_true rfl, by rw [hR]; exact Nat.le_of_ble_eq_true rfl⟩ rfl dX7_layMobius_66 ?_
              refine g_if_eq C 81 dX7_layMobius_69 (by decide) (fun c22 => ?_) (fun c22 => ?_)
              · replace h := it_t c22 h
                refine g_iconst C 0 dX7_layMobius_81 (by decide) ?_
                refine g_isub C dX7_layMobius_82 ?_
                obtain ⟨hi23, h⟩ := ck_of h
                refine g_iast C 2 rfl hi23 [(a0, .inr (7, [.int (q7_thrown o0), .ref a0_buffer, .int (q7_length o0), .int (q7_at o0), .int (q7_from o0), .int (q7_kind o0), .int (q7_number o0), .int (q7_wrong o0), .ref a0_now, .ref a0_made, .ref a0_history, .ref a0_saved, .int (q7_entries o0), .int (q7_isSaved o0), .ref a0_closed, .ref a0_faces, .ref a0_rankOf, .ref a0_placeOf, .int (q7_faceMany o0), .int (q7_isLaid o0), .ref a0_counted, .ref a0_steps, .ref a0_onto, .ref a0_goes, .int (q7_found o0), .int (q7_images o0), .ref a0_firstImage, .int (q7_gathered o0)])), (a0_faces, .inl (zI Z, 256, .inl (q7_faces o0))), (a0_counted, .inl (zI Z, 256, .inl (upd v6.2 (ix v1.1) ((v6.2 (ix v1.1)) - 0))))] rfl dX7_layMobius_83 ?_
                refine g_iinc C (v6.1 + 1) dX7_layMobius_84 3 rfl rfl (by decide) [(3, .int (v6.1 + 1)), (0, .ref a0), (1, .int p1), (2, .int v1.1)] rfl ?_
                refine g_goto C 28 dX7_layMobius_87 (by decide) ?_
                refine g_lv [1, 2, 3, 0] [(0, .ref a0), (1, .int p1), (2, .int v1.1), (3, .int (v6.1 + 1))] rfl ?_
                exact hk2 ((v6.1 + 1), (upd v6.2 (ix v1.1) ((v6.2 (ix v1.1)) - 0))) (Option.some.inj h).symm
              · replace h := it_f c22 h
                refine g_aload_n C dX7_layMobius_72 rfl 0 rfl ?_
                refine g_get C 7 37 gin7 0 rfl rfl 20 (by decide) mw_5_105 rfl rfl dX7_layMobius_73 ?_
                refine g_iload_n C dX7_layMobius_76 rfl 3 rfl ?_
                obtain ⟨hi24, h⟩ := ck_of h
                refine g_iald C 2 rfl hi24 dX7_layMobius_77 ?_
                refine g_goto C 82 dX7_layMobius_78 (by decide) ?_
                refine g_isub C dX7_layMobius_82 ?_
                obtain ⟨hi25, h⟩ := ck_of h
                refine g_iast C 2 rfl hi25 [(a0, .inr (7, [.int (q7_thrown o0), .ref a0_buffer, .int (q7_length o0), .int (q7_at o0), .int (q7_from o0), .int (q7_kind o0), .int (q7_number o0), .int (q7_wrong o0), .ref a0_now, .ref a0_made, .ref a0_history, .ref a0_saved, .int (q7_entries o0), .int (q7_isSaved o0), .ref a0_closed, .ref a0_faces, .ref a0_rankOf, .ref a0_placeOf, .int (q7_faceMany o0), .int (q7_isLaid o0), .ref a0_counted, .ref a0_steps, .ref a0_onto, .ref a0_goes, .int (q7_found o0), .int (q7_images o0), .ref a0_firstImage, .int (q7_gathered o0)])), (a0_faces, .inl (zI Z, 256, .inl (q7_faces o0))), (a0_counted, .inl (zI Z, 256, .inl (upd v6.2 (ix v1.1) ((v6.2 (ix v1.1)) - (v6.2 (ix v6.1))))))] rfl dX7_layMobius_83 ?_
                refine g_iinc C (v6.1 + 1) dX7_layMobius_84 3 rfl rfl (by decide) [(3, .int (v6.1 + 1)), (0, .ref a0), (1, .int p1), (2, .int v1.1)] rfl ?_
                refine g_goto C 28 dX7_layMobius_87 (by decide) ?_
                refine g_lv [1, 2, 3, 0] [(0, .ref a0), (1, .int p1), (2, .int v1.1), (3, .int (v6.1 + 1))] rfl ?_
                exact hk2 ((v6.1 + 1), (upd v6.2 (ix v1.1) ((v6.2 (ix v1.1)) - (v6.2 (ix v6.1))))) (Option.some.inj h).symm
    refine g_icmp_ne C 24 dX7_layMobius_17 (by decide) (fun c26 => ?_) (fun c26 => ?_)
    · replace h := it_f c26 h
      refine g_iconst C 0 dX7_layMobius_24 (by decide) ?_
      exact hj25 0 h
    · replace h := it_t c26 h
      refine g_iconst C 1 dX7_layMobius_20 (by decide) ?_
      refine g_goto C 25 dX7_layMobius_21 (by decide) ?_
      exact hj25 1 h
def fX7_mobius (o0 : OX7) (p1 : Int32) (p2 : Int32) : Option (Int32 × OX7) :=
  (fX7_failsFaces (s7_thrown o0 0) p1 p2).bind fun r1 =>
  (if r1.1 = 0 then ((fX7_layMobius (s7_isLaid (s7_faceMany (s7_placeOf (s7_rankOf (s7_faces (s7_closed (s7_thrown o0 (q7_thrown r1.2)) (q7_closed r1.2)) (q7_faces r1.2)) (q7_rankOf r1.2)) (q7_placeOf r1.2)) (q7_faceMany r1.2)) (q7_isLaid r1.2)) p1).bind fun r4 =>
  ((fX7_isIn (s7_counted (s7_isLaid (s7_faceMany (s7_placeOf (s7_rankOf (s7_faces (s7_closed (s7_thrown o0 (q7_thrown r1.2)) (q7_closed r1.2)) (q7_faces r1.2)) (q7_rankOf r1.2)) (q7_placeOf r1.2)) (q7_faceMany r1.2)) (q7_isLaid r1.2)) (q7_counted r4)) p1 p2).bind fun r6 =>
  (if r6 = 0 then (some (0, (s7_counted (s7_isLaid (s7_faceMany (s7_placeOf (s7_rankOf (s7_faces (s7_closed (s7_thrown o0 (q7_thrown r1.2)) (q7_closed r1.2)) (q7_faces r1.2)) (q7_rankOf r1.2)) (q7_placeOf r1.2)) (q7_faceMany r1.2)) (q7_isLaid r1.2)) (q7_counted r4))))
  else (ck (okI p2 256) (some (((q7_counted r4) (ix p2)), (s7_counted (s7_isLaid (s7_faceMany (s7_placeOf (s7_rankOf (s7_faces (s7_closed (s7_thrown o0 (q7_thrown r1.2)) (q7_closed r1.2)) (q7_faces r1.2)) (q7_rankOf r1.2)) (q7_placeOf r1.2)) (q7_faceMany r1.2)) (q7_isLaid r1.2)) (q7_counted r4))))))))
  else (some (0, (s7_isLaid (s7_faceMany (s7_placeOf (s7_rankOf (s7_faces (s7_closed (s7_thrown o0 (q7_thrown r1.2)) (q7_closed r1.2)) (q7_faces r1.2)) (q7_rankOf r1.2)) (q7_placeOf r1.2)) (q7_faceMany r1.2)) (q7_isLaid r1.2)))))
theorem myX7_mobius : MYv yX7_mobius cX7_mobius 3 (some .int) 2 := ⟨mw_7_38, mw_7_39, mw_7_40, mw_1_9, ⟨by decide +kernel, by decide +kernel⟩, by decide +kernel⟩
set_option maxRecDepth 100000 in
set_option maxHeartbeats 4000000 in
theorem kX7_mobius (l : Launch) (Z : GZ) (a0 a0_buffer a0_now a0_made a0_history a0_saved a0_closed a0_faces a0_rankOf a0_placeOf a0_counted a0_steps a0_onto a0_goes a0_firstImage : Nat) (o0 : OX7) (p1 : Int32) (p2 : Int32) (res : Int32 × OX7) (h : fX7_mobius o0 p1 p2 = some res) : MI l Z yX7_mobius cX7_mobius 3 .int 6 132 [.ref a0, .int p1, .int p2] [(a0, .inr (7, [.int (q7_thrown o0), .ref a0_buffer, .int (q7_length o0), .int (q7_at o0), .int (q7_from o0), .int (q7_kind o0), .int (q7_number o0), .int (q7_wrong o0), .ref a0_now, .ref a0_made, .ref a0_history, .ref a0_saved, .int (q7_entries o0), .int (q7_isSaved o0), .ref a0_closed, .ref a0_faces, .ref a0_rankOf, .ref a0_placeOf, .int (q7_faceMany o0), .int (q7_isLaid o0), .ref a0_counted, .ref a0_steps, .ref a0_onto, .ref a0_goes, .int (q7_found o0), .int (q7_images o0), .ref a0_firstImage, .int (q7_gathered o0)])), (a0_now, .inl (zI Z, 12, .inl (q7_now o0))), (a0_closed, .inl (zI Z, 256, .inl (q7_closed o0))), (a0_faces, .inl (zI Z, 256, .inl (q7_faces o0))), (a0_rankOf, .inl (zI Z, 256, .inl (q7_rankOf o0))), (a0_placeOf, .inl (zI Z, 256, .inl (q7_placeOf o0))), (a0_counted, .inl (zI Z, 256, .inl (q7_counted o0)))] res.1 [(a0, .inr (7, [.int (q7_thrown res.2), .ref a0_buffer, .int (q7_length o0), .int (q7_at o0), .int (q7_from o0), .int (q7_kind o0), .int (q7_number o0), .int (q7_wrong o0), .ref a0_now, .ref a0_made, .ref a0_history, .ref a0_saved, .int (q7_entries o0), .int (q7_isSaved o0), .ref a0_closed, .ref a0_faces, .ref a0_rankOf, .ref a0_placeOf, .int (q7_faceMany res.2), .int (q7_isLaid res.2), .ref a0_counted, .ref a0_steps, .ref a0_onto, .ref a0_goes, .int (q7_found o0), .int (q7_images o0), .ref a0_firstImage, .int (q7_gathered o0)])), (a0_now, .inl (zI Z, 12, .inl (q7_now o0))), (a0_closed, .inl (zI Z, 256, .inl (q7_closed res.2))), (a0_faces, .inl (zI Z, 256, .inl (q7_faces res.2))), (a0_rankOf, .inl (zI Z, 256, .inl (q7_rankOf res.2))), (a0_placeOf, .inl (zI Z, 256, .inl (q7_placeOf res.2))), (a0_counted, .inl (zI Z, 256, .inl (q7_counted res.2)))] := by
  refine MI_of (by decide +kernel) (Nat.le_of_ble_eq_true rfl) (fun {p e s m args below meth c} A R hR Q hQ C hr hlk => ?_)
  unfold fX7_mobius at h
  refine g_lv [0, 1, 2] [(0, .ref a0), (1, .int p1), (2, .int p2)] rfl ?_
  refine g_aload_n C dX7_mobius_0 rfl 0 rfl ?_
  refine g_iconst C 0 dX7_mobius_1 (by decide) ?_
  refine g_put C 7 52 gin7 tyX7 tyX7_ok nmX7 0 rfl rfl 0 (by decide) mw_5_85 rfl rfl (ty := .int) (by decide +kernel) rfl rfl (Nat.le_of_ble_eq_true rfl) [(a0, .inr (7, [.int 0, .ref a0_buffer, .int (q7_length o0), .int (q7_at o0), .int (q7_from o0), .int (q7_kind o0), .int (q7_number o0), .int (q7_wrong o0), .ref a0_now, .ref a0_made, .ref a0_history, .ref a0_saved, .int (q7_entries o0), .int (q7_isSaved o0), .ref a0_closed, .ref a0_faces, .ref a0_rankOf, .ref a0_placeOf, .int (q7_faceMany o0), .int (q7_isLaid o0), .ref a0_counted, .ref a0_steps, .ref a0_onto, .ref a0_goes, .int (q7_found o0), .int (q7_images o0), .ref a0_firstImage, .int (q7_gathered o0)])), (a0_now, .inl (zI Z, 12, .inl (q7_now o0))), (a0_closed, .inl (zI Z, 256, .inl (q7_closed o0))), (a0_faces, .inl (zI Z, 256, .inl (q7_faces o0))), (a0_rankOf, .inl (zI Z, 256, .inl (q7_rankOf o0))), (a0_placeOf, .inl (zI Z, 256, .inl (q7_placeOf o0))), (a0_counted, .inl (zI Z, 256, .inl (q7_counted o0)))] rfl dX7_mobius_2 ?_
  refine g_aload_n C dX7_mobius_5 rfl 0 rfl ?_
  refine g_iload_n C dX7_mobius_6 rfl 1 rfl ?_
  refine g_iload_n C dX7_mobius_7 rfl 2 rfl ?_
  obtain ⟨r1, hr2, h⟩ := bd_of h
  refine g_callVi C (kX7_failsFaces l Z a0 a0_buffer a0_now a0_made a0_history a0_saved a0_closed a0_faces a0_rankOf a0_placeOf a0_counted a0_steps a0_onto a0_goes a0_firstImage (s7_thrown o0 0) p1 p2 r1 hr2) 0 rfl (ci := 7) rfl rfl myX7_failsFaces 269 mw_7_9 rfl [0, 1, 2, 3, 4, 5] [6] [1, 2, 3, 4, 5, 6, 0] (wr := [(a0_counted, .inl (zI Z, 256, .inl (q7_counted o0)))]) rfl rfl (by decide) (by decide) (by decide) [(a0, .inr (7, [.int (q7_thrown r1.2), .ref a0_buffer, .int (q7_length o0), .int (q7_at o0), .int (q7_from o0), .int (q7_kind o0), .int (q7_number o0), .int (q7_wrong o0), .ref a0_now, .ref a0_made, .ref a0_history, .ref a0_saved, .int (q7_entries o0), .int (q7_isSaved o0), .ref a0_closed, .ref a0_faces, .ref a0_rankOf, .ref a0_placeOf, .int (q7_faceMany r1.2), .int (q7_isLaid r1.2), .ref a0_counted, .ref a0_steps, .ref a0_onto, .ref a0_goes, .int (q7_found o0), .int (q7_images o0), .ref a0_firstImage, .int (q7_gathered o0)])), (a0_now, .inl (zI Z, 12, .inl (q7_now o0))), (a0_closed, .inl (zI Z, 256, .inl (q7_closed r1.2))), (a0_faces, .inl (zI Z, 256, .inl (q7_faces r1.2))), (a0_rankOf, .inl (zI Z, 256, .inl (q7_rankOf r1.2))), (a0_placeOf, .inl (zI Z, 256, .inl (q7_placeOf r1.2))), (a0_counted, .inl (zI Z, 256, .inl (q7_counted o0)))] rfl (by decide) (Nat.le_of_ble_eq_true rfl) (by rw [hR]; exact Nat.le_of_ble_eq_true rfl) (by rw [hR]; exact Nat.le_of_ble_eq_true rfl) ⟨by rw [hR]; exact Nat.le_of_ble_eq_true rfl, by rw [hR]; exact Nat.le_of_ble_eq_true rfl⟩ rfl dX7_mobius_8 ?_
  refine g_if_eq C 16 dX7_mobius_11 (by decide) (fun c3 => ?_) (fun c3 => ?_)
  · replace h := it_t c3 h
    refine g_aload_n C dX7_mobius_16 rfl 0 rfl ?_
    refine g_iload_n C dX7_mobius_17 rfl 1 rfl ?_
    obtain ⟨r4, hr5, h⟩ := bd_of h
    refine g_callVv C (kX7_layMobius l Z a0 a0_buffer a0_now a0_made a0_history a0_saved a0_closed a0_faces a0_rankOf a0_placeOf a0_counted a0_steps a0_onto a0_goes a0_firstImage (s7_isLaid (s7_faceMany (s7_placeOf (s7_rankOf (s7_faces (s7_closed (s7_thrown o0 (q7_thrown r1.2)) (q7_closed r1.2)) (q7_faces r1.2)) (q7_rankOf r1.2)) (q7_placeOf r1.2)) (q7_faceMany r1.2)) (q7_isLaid r1.2)) p1 r4 hr5) 0 rfl (ci := 7) rfl rfl myX7_layMobius 281 mw_7_41 rfl [0, 3, 6] [1, 2, 4, 5] [4, 0, 1, 5, 2, 3, 6] (wr := [(a0_now, .inl (zI Z, 12, .inl (q7_now o0))), (a0_closed, .inl (zI Z, 256, .inl (q7_closed r1.2))), (a0_rankOf, .inl (zI Z, 256, .inl (q7_rankOf r1.2))), (a0_placeOf, .inl (zI Z, 256, .inl (q7_placeOf r1.2)))]) rfl rfl (by decide) (by decide) (by decide) [(a0, .inr (7, [.int (q7_thrown r1.2), .ref a0_buffer, .int (q7_length o0), .int (q7_at o0), .int (q7_from o0), .int (q7_kind o0), .int (q7_number o0), .int (q7_wrong o0), .ref a0_now, .ref a0_made, .ref a0_history, .ref a0_saved, .int (q7_entries o0), .int (q7_isSaved o0), .ref a0_closed, .ref a0_faces, .ref a0_rankOf, .ref a0_placeOf, .int (q7_faceMany r1.2), .int (q7_isLaid r1.2), .ref a0_counted, .ref a0_steps, .ref a0_onto, .ref a0_goes, .int (q7_found o0), .int (q7_images o0), .ref a0_firstImage, .int (q7_gathered o0)])), (a0_now, .inl (zI Z, 12, .inl (q7_now o0))), (a0_closed, .inl (zI Z, 256, .inl (q7_closed r1.2))), (a0_faces, .inl (zI Z, 256, .inl (q7_faces r1.2))), (a0_rankOf, .inl (zI Z, 256, .inl (q7_rankOf r1.2))), (a0_placeOf, .inl (zI Z, 256, .inl (q7_placeOf r1.2))), (a0_counted, .inl (zI Z, 256, .inl (q7_counted r4)))] rfl (by decide) (Nat.le_of_ble_eq_true rfl) (by rw [hR]; exact Nat.le_of_ble_eq_true rfl) (by rw [hR]; exact Nat.le_of_ble_eq_true rfl) ⟨by rw [hR]; exact Nat.le_of_ble_eq_true rfl, by rw [hR]; exact Nat.le_of_ble_eq_true rfl⟩ rfl dX7_mobius_18 ?_
    refine g_aload_n C dX7_mobius_21 rfl 0 rfl ?_
    refine g_iload_n C dX7_mobius_22 rfl 1 rfl ?_
    refine g_iload_n C dX7_mobius_23 rfl 2 rfl ?_
    obtain ⟨r6, hr7, h⟩ := bd_of h
    refine g_callVi C (kX7_isIn l Z a0 a0_buffer a0_now a0_made a0_history a0_saved a0_closed a0_faces a0_rankOf a0_placeOf a0_counted a0_steps a0_onto a0_goes a0_firstImage (s7_counted (s7_isLaid (s7_faceMany (s7_placeOf (s7_rankOf (s7_faces (s7_closed (s7_thrown o0 (q7_thrown r1.2)) (q7_closed r1.2)) (q7_faces r1.2)) (q7_rankOf r1.2)) (q7_placeOf r1.2)) (q7_faceMany r1.2)) (q7_isLaid r1.2)) (q7_counted r4)) p1 p2 r6 hr7) 0 rfl (ci := 7) rfl rfl myX7_isIn 272 mw_7_25 rfl [0, 3] [1, 2, 4, 5, 6] [5, 0, 1, 6, 2, 3, 4] (wr := [(a0_now, .inl (zI Z, 12, .inl (q7_now o0))), (a0_closed, .inl (zI Z, 256, .inl (q7_closed r1.2))), (a0_rankOf, .inl (zI Z, 256, .inl (q7_rankOf r1.2))), (a0_placeOf, .inl (zI Z, 256, .inl (q7_placeOf r1.2))), (a0_counted, .inl (zI Z, 256, .inl (q7_counted r4)))]) rfl rfl (by decide) (by decide) (by decide) [(a0, .inr (7, [.int (q7_thrown r1.2), .ref a0_buffer, .int (q7_length o0), .int (q7_at o0), .int (q7_from o0), .int (q7_kind o0), .int (q7_number o0), .int (q7_wrong o0), .ref a0_now, .ref a0_made, .ref a0_history, .ref a0_saved, .int (q7_entries o0), .int (q7_isSaved o0), .ref a0_closed, .ref a0_faces, .ref a0_rankOf, .ref a0_placeOf, .int (q7_faceMany r1.2), .int (q7_isLaid r1.2), .ref a0_counted, .ref a0_steps, .ref a0_onto, .ref a0_goes, .int (q7_found o0), .int (q7_images o0), .ref a0_firstImage, .int (q7_gathered o0)])), (a0_now, .inl (zI Z, 12, .inl (q7_now o0))), (a0_closed, .inl (zI Z, 256, .inl (q7_closed r1.2))), (a0_faces, .inl (zI Z, 256, .inl (q7_faces r1.2))), (a0_rankOf, .inl (zI Z, 256, .inl (q7_rankOf r1.2))), (a0_placeOf, .inl (zI Z, 256, .inl (q7_placeOf r1.2))), (a0_counted, .inl (zI Z, 256, .inl (q7_counted r4)))] rfl (by decide) (Nat.le_of_ble_eq_true rfl) (by rw [hR]; exact Nat.le_of_ble_eq_true rfl) (by rw [hR]; exact Nat.le_of_ble_eq_true rfl) ⟨by rw [hR]; exact Nat.le_of_ble_eq_true rfl, by rw [hR]; exact Nat.le_of_ble_eq_true rfl⟩ rfl dX7_mobius_24 ?_
    refine g_if_eq C 39 dX7_mobius_27 (by decide) (fun c8 => ?_) (fun c8 => ?_)
    · replace h := it_t c8 h
      refine g_iconst C 0 dX7_mobius_39 (by decide) ?_
      obtain rfl := Option.some.inj h
      subst hQ
      exact g_iret C rfl hr hlk dX7_mobius_40 [0, 1, 2, 3, 4, 5, 6] rfl (by decide)
    · replace h := it_f c8 h
      refine g_aload_n C dX7_mobius_30 rfl 0 rfl ?_
      refine g_get C 7 37 gin7 0 rfl rfl 20 (by decide) mw_5_105 rfl rfl dX7_mobius_31 ?_
      refine g_iload_n C dX7_mobius_34 rfl 2 rfl ?_
      obtain ⟨hi9, h⟩ := ck_of h
      refine g_iald C 6 rfl hi9 dX7_mobius_35 ?_
      refine g_goto C 40 dX7_mobius_36 (by decide) ?_
      obtain rfl := Option.some.inj h
      subst hQ
      exact g_iret C rfl hr hlk dX7_mobius_40 [0, 1, 2, 3, 4, 5, 6] rfl (by decide)
  · replace h := it_f c3 h
    refine g_iconst C 0 dX7_mobius_14 (by decide) ?_
    obtain rfl := Option.some.inj h
    subst hQ
    exact g_iret C rfl hr hlk dX7_mobius_15 [0, 1, 2, 3, 4, 5, 6] rfl (by decide)
def fX7_isGradedNow_L16 (o0 : OX7) (r1 : OX7) (v3 : Int32) (v6 : Int32) : Option ((Int32) ⊕ ((Int32) ⊕ (Int32 × OX7))) :=
  if v3 ≤ v6 then (ex (some (.inl (v3 + 1))))
  else ((fX7_covers (s7_isLaid (s7_faceMany (s7_placeOf (s7_rankOf (s7_faces (s7_closed o0 (q7_closed r1)) (q7_faces r1)) (q7_rankOf r1)) (q7_placeOf r1)) (q7_faceMany r1)) (q7_isLaid r1)) v3 v6).bind fun r9 =>
  (if r9 = 0 then (some (.inl (v6 + 1)))
  else ((fX7_rankAt (s7_isLaid (s7_faceMany (s7_placeOf (s7_rankOf (s7_faces (s7_closed o0 (q7_closed r1)) (q7_faces r1)) (q7_rankOf r1)) (q7_placeOf r1)) (q7_faceMany r1)) (q7_isLaid r1)) v3).bind fun r12 =>
  ((fX7_rankAt (s7_isLaid (s7_faceMany (s7_placeOf (s7_rankOf (s7_faces (s7_closed o0 (q7_closed r1)) (q7_faces r1)) (q7_rankOf r1)) (q7_placeOf r1)) (q7_faceMany r1)) (q7_isLaid r1)) v6).bind fun r14 =>
  (if r12 = (r14 + 1) then (some (.inl (v6 + 1)))
  else (ex (ex (some (0, (s7_isLaid (s7_faceMany (s7_placeOf (s7_rankOf (s7_faces (s7_closed o0 (q7_closed r1)) (q7_faces r1)) (q7_rankOf r1)) (q7_placeOf r1)) (q7_faceMany r1)) (q7_isLaid r1)))))))))))
def fX7_isGradedNow_L6 (o0 : OX7) (r1 : OX7) (v3 : Int32) : Option ((Int32) ⊕ (Int32 × OX7)) :=
  if (q7_faceMany r1) ≤ v3 then (ex (some (1, (s7_isLaid (s7_faceMany (s7_placeOf (s7_rankOf (s7_faces (s7_closed o0 (q7_closed r1)) (q7_faces r1)) (q7_rankOf r1)) (q7_placeOf r1)) (q7_faceMany r1)) (q7_isLaid r1)))))
  else (lp (fX7_isGradedNow_L16 o0 r1 v3) lpN 0)
def fX7_isGradedNow (o0 : OX7) : Option (Int32 × OX7) :=
  (fX7_lay o0).bind fun r1 =>
  (lp (fX7_isGradedNow_L6 o0 r1) lpN 0)
theorem myX7_isGradedNow : MYv yX7_isGradedNow cX7_isGradedNow 3 (some .boolean) 0 := ⟨mw_7_51, ms_75, mw_7_52, mw_1_9, ⟨by decide +kernel, by decide +kernel⟩, by decide +kernel⟩
set_option maxRecDepth 100000 in
set_option maxHeartbeats 4000000 in
theorem kX7_isGradedNow (l : Launch) (Z : GZ) (a0 a0_buffer a0_now a0_made a0_history a0_saved a0_closed a0_faces a0_rankOf a0_placeOf a0_counted a0_steps a0_onto a0_goes a0_firstImage : Nat) (o0 : OX7) (res : Int32 × OX7) (h : fX7_isGradedNow o0 = some res) : MI l Z yX7_isGradedNow cX7_isGradedNow 3 .boolean 4 89 [.ref a0] [(a0, .inr (7, [.int (q7_thrown o0), .ref a0_buffer, .int (q7_length o0), .int (q7_at o0), .int (q7_from o0), .int (q7_kind o0), .int (q7_number o0), .int (q7_wrong o0), .ref a0_now, .ref a0_made, .ref a0_history, .ref a0_saved, .int (q7_entries o0), .int (q7_isSaved o0), .ref a0_closed, .ref a0_faces, .ref a0_rankOf, .ref a0_placeOf, .int (q7_faceMany o0), .int (q7_isLaid o0), .ref a0_counted, .ref a0_steps, .ref a0_onto, .ref a0_goes, .int (q7_found o0), .int (q7_images o0), .ref a0_firstImage, .int (q7_gathered o0)])), (a0_now, .inl (zI Z, 12, .inl (q7_now o0))), (a0_closed, .inl (zI Z, 256, .inl (q7_closed o0))), (a0_faces, .inl (zI Z, 256, .inl (q7_faces o0))), (a0_rankOf, .inl (zI Z, 256, .inl (q7_rankOf o0))), (a0_placeOf, .inl (zI Z, 256, .inl (q7_placeOf o0)))] res.1 [(a0, .inr (7, [.int (q7_thrown o0), .ref a0_buffer, .int (q7_length o0), .int (q7_at o0), .int (q7_from o0), .int (q7_kind o0), .int (q7_number o0), .int (q7_wrong o0), .ref a0_now, .ref a0_made, .ref a0_history, .ref a0_saved, .int (q7_entries o0), .int (q7_isSaved o0), .ref a0_closed, .ref a0_faces, .ref a0_rankOf, .ref a0_placeOf, .int (q7_faceMany res.2), .int (q7_isLaid res.2), .ref a0_counted, .ref a0_steps, .ref a0_onto, .ref a0_goes, .int (q7_found o0), .int (q7_images o0), .ref a0_firstImage, .int (q7_gathered o0)])), (a0_now, .inl (zI Z, 12, .inl (q7_now o0))), (a0_closed, .inl (zI Z, 256, .inl (q7_closed res.2))), (a0_faces, .inl (zI Z, 256, .inl (q7_faces res.2))), (a0_rankOf, .inl (zI Z, 256, .inl (q7_rankOf res.2))), (a0_placeOf, .inl (zI Z, 256, .inl (q7_placeOf res.2)))] := by
  refine MI_of (by decide +kernel) (Nat.le_of_ble_eq_true rfl) (fun {p e s m args below meth c} A R hR Q hQ C hr hlk => ?_)
  unfold fX7_isGradedNow at h
  refine g_lv [0] [(0, .ref a0)] rfl ?_
  refine g_aload_n C dX7_isGradedNow_0 rfl 0 rfl ?_
  obtain ⟨r1, hr2, h⟩ := bd_of h
  refine g_callVv C (kX7_lay l Z a0 a0_buffer a0_now a0_made a0_history a0_saved a0_closed a0_faces a0_rankOf a0_placeOf a0_counted a0_steps a0_onto a0_goes a0_firstImage o0 r1 hr2) 0 rfl (ci := 7) rfl rfl myX7_lay 217 mw_6_120 rfl [0, 1, 2, 3, 4, 5] [] [0, 1, 2, 3, 4, 5] (wr := []) rfl rfl (by decide) (by decide) (by decide) [(a0, .inr (7, [.int (q7_thrown o0), .ref a0_buffer, .int (q7_length o0), .int (q7_at o0), .int (q7_from o0), .int (q7_kind o0), .int (q7_number o0), .int (q7_wrong o0), .ref a0_now, .ref a0_made, .ref a0_history, .ref a0_saved, .int (q7_entries o0), .int (q7_isSaved o0), .ref a0_closed, .ref a0_faces, .ref a0_rankOf, .ref a0_placeOf, .int (q7_faceMany r1), .int (q7_isLaid r1), .ref a0_counted, .ref a0_steps, .ref a0_onto, .ref a0_goes, .int (q7_found o0), .int (q7_images o0), .ref a0_firstImage, .int (q7_gathered o0)])), (a0_now, .inl (zI Z, 12, .inl (q7_now o0))), (a0_closed, .inl (zI Z, 256, .inl (q7_closed r1))), (a0_faces, .inl (zI Z, 256, .inl (q7_faces r1))), (a0_rankOf, .inl (zI Z, 256, .inl (q7_rankOf r1))), (a0_placeOf, .inl (zI Z, 256, .inl (q7_placeOf r1)))] rfl (by decide) (Nat.le_of_ble_eq_true rfl) (by rw [hR]; exact Nat.le_of_ble_eq_true rfl) (by rw [hR]; exact Nat.le_of_ble_eq_true rfl) ⟨by rw [hR]; exact Nat.le_of_ble_eq_true rfl, by rw [hR]; exact Nat.le_of_ble_eq_true rfl⟩ rfl dX7_isGradedNow_1 ?_
  refine g_iconst C 0 dX7_isGradedNow_4 (by decide) ?_
  refine g_istore_n C dX7_isGradedNow_5 rfl (by decide) [(1, .int 0), (0, .ref a0)] rfl ?_
  refine g_lv [1, 0] [(0, .ref a0), (1, .int 0)] rfl ?_
  refine g_loop (lvf := fun v3 => [(0, .ref a0), (1, .int v3)]) (wsf := fun v3 => [(a0, .inr (7, [.int (q7_thrown o0), .ref a0_buffer, .int (q7_length o0), .int (q7_at o0), .int (q7_from o0), .int (q7_kind o0), .int (q7_number o0), .int (q7_wrong o0), .ref a0_now, .ref a0_made, .ref a0_history, .ref a0_saved, .int (q7_entries o0), .int (q7_isSaved o0), .ref a0_closed, .ref a0_faces, .ref a0_rankOf, .ref a0_placeOf, .int (q7_faceMany r1), .int (q7_isLaid r1), .ref a0_counted, .ref a0_steps, .ref a0_onto, .ref a0_goes, .int (q7_found o0), .int (q7_images o0), .ref a0_firstImage, .int (q7_gathered o0)])), (a0_now, .inl (zI Z, 12, .inl (q7_now o0))), (a0_closed, .inl (zI Z, 256, .inl (q7_closed r1))), (a0_faces, .inl (zI Z, 256, .inl (q7_faces r1))), (a0_rankOf, .inl (zI Z, 256, .inl (q7_rankOf r1))), (a0_placeOf, .inl (zI Z, 256, .inl (q7_placeOf r1)))]) h (fun v3 y1 h hk1 hx1 => ?_)
  refine g_eq (lv1 := [(0, .ref a0), (1, .int v3)]) (st1 := []) (ws1 := [(a0, .inr (7, [.int (q7_thrown o0), .ref a0_buffer, .int (q7_length o0), .int (q7_at o0), .int (q7_from o0), .int (q7_kind o0), .int (q7_number o0), .int (q7_wrong o0), .ref a0_now, .ref a0_made, .ref a0_history, .ref a0_saved, .int (q7_entries o0), .int (q7_isSaved o0), .ref a0_closed, .ref a0_faces, .ref a0_rankOf, .ref a0_placeOf, .int (q7_faceMany r1), .int (q7_isLaid r1), .ref a0_counted, .ref a0_steps, .ref a0_onto, .ref a0_goes, .int (q7_found o0), .int (q7_images o0), .ref a0_firstImage, .int (q7_gathered o0)])), (a0_now, .inl (zI Z, 12, .inl (q7_now o0))), (a0_closed, .inl (zI Z, 256, .inl (q7_closed r1))), (a0_faces, .inl (zI Z, 256, .inl (q7_faces r1))), (a0_rankOf, .inl (zI Z, 256, .inl (q7_rankOf r1))), (a0_placeOf, .inl (zI Z, 256, .inl (q7_placeOf r1)))]) rfl rfl rfl rfl ?_
  unfold fX7_isGradedNow_L6 at h
  refine g_iload_n C dX7_isGradedNow_6 rfl 1 rfl ?_
  refine g_aload_n C dX7_isGradedNow_7 rfl 0 rfl ?_
  refine g_get C 7 214 gin7 0 rfl rfl 18 (by decide) mw_5_103 rfl rfl dX7_isGradedNow_8 ?_
  refine g_icmp_ge C 59 dX7_isGradedNow_11 (by decide) (fun c4 => ?_) (fun c4 => ?_)
  · replace h := it_t c4 h
    obtain ⟨r5, h, hy⟩ := ex_of h
    rw [hx1 r5 hy] at h
    refine g_iconst C 1 dX7_isGradedNow_59 (by decide) ?_
    obtain rfl := Option.some.inj h
    subst hQ
    exact g_zret C rfl (Or.inr rfl) hr hlk dX7_isGradedNow_60 [0, 1, 2, 3, 4, 5] rfl (by decide)
  · replace h := it_f c4 h
    refine g_iconst C 0 dX7_isGradedNow_14 (by decide) ?_
    refine g_istore_n C dX7_isGradedNow_15 rfl (by decide) [(2, .int 0), (0, .ref a0), (1, .int v3)] rfl ?_
    refine g_lv [1, 2, 0] [(0, .ref a0), (1, .int v3), (2, .int 0)] rfl ?_
    refine g_loop (lvf := fun v6 => [(0, .ref a0), (1, .int v3), (2, .int v6)]) (wsf := fun v6 => [(a0, .inr (7, [.int (q7_thrown o0), .ref a0_buffer, .int (q7_length o0), .int (q7_at o0), .int (q7_from o0), .int (q7_kind o0), .int (q7_number o0), .int (q7_wrong o0), .ref a0_now, .ref a0_made, .ref a0_history, .ref a0_saved, .int (q7_entries o0), .int (q7_isSaved o0), .ref a0_closed, .ref a0_faces, .ref a0_rankOf, .ref a0_placeOf, .int (q7_faceMany r1), .int (q7_isLaid r1), .ref a0_counted, .ref a0_steps, .ref a0_onto, .ref a0_goes, .int (q7_found o0), .int (q7_images o0), .ref a0_firstImage, .int (q7_gathered o0)])), (a0_now, .inl (zI Z, 12, .inl (q7_now o0))), (a0_closed, .inl (zI Z, 256, .inl (q7_closed r1))), (a0_faces, .inl (zI Z, 256, .inl (q7_faces r1))), (a0_rankOf, .inl (zI Z, 256, .inl (q7_rankOf r1))), (a0_placeOf, .inl (zI Z, 256, .inl (q7_placeOf r1)))]) h (fun v6 y2 h hk2 hx2 => ?_)
    refine g_eq (lv1 := [(0, .ref a0), (1, .int v3), (2, .int v6)]) (st1 := []) (ws1 := [(a0, .inr (7, [.int (q7_thrown o0), .ref a0_buffer, .int (q7_length o0), .int (q7_at o0), .int (q7_from o0), .int (q7_kind o0), .int (q7_number o0), .int (q7_wrong o0), .ref a0_now, .ref a0_made, .ref a0_history, .ref a0_saved, .int (q7_entries o0), .int (q7_isSaved o0), .ref a0_closed, .ref a0_faces, .ref a0_rankOf, .ref a0_placeOf, .int (q7_faceMany r1), .int (q7_isLaid r1), .ref a0_counted, .ref a0_steps, .ref a0_onto, .ref a0_goes, .int (q7_found o0), .int (q7_images o0), .ref a0_firstImage, .int (q7_gathered o0)])), (a0_now, .inl (zI Z, 12, .inl (q7_now o0))), (a0_closed, .inl (zI Z, 256, .inl (q7_closed r1))), (a0_faces, .inl (zI Z, 256, .inl (q7_faces r1))), (a0_rankOf, .inl (zI Z, 256, .inl (q7_rankOf r1))), (a0_placeOf, .inl (zI Z, 256, .inl (q7_placeOf r1)))]) rfl rfl rfl rfl ?_
    unfold fX7_isGradedNow_L16 at h
    refine g_iload_n C dX7_isGradedNow_16 rfl 2 rfl ?_
    refine g_iload_n C dX7_isGradedNow_17 rfl 1 rfl ?_
    refine g_icmp_ge C 53 dX7_isGradedNow_18 (by decide) (fun c7 => ?_) (fun c7 => ?_)
    · replace h := it_t c7 h
      obtain ⟨r8, h, hy⟩ := ex_of h
      rw [hx2 r8 hy] at h
      refine g_iinc C (v3 + 1) dX7_isGradedNow_53 1 rfl rfl (by decide) [(1, .int (v3 + 1)), (0, .ref a0), (2, .int v6)] rfl ?_
      refine g_goto C 6 dX7_isGradedNow_56 (by decide) ?_
      refine g_lv [1, 0] [(0, .ref a0), (1, .int (v3 + 1))] rfl ?_
      exact hk1 (v3 + 1) (Option.some.inj h).symm
    · replace h := it_f c7 h
      refine g_aload_n C dX7_isGradedNow_21 rfl 0 rfl ?_
      refine g_iload_n C dX7_isGradedNow_22 rfl 1 rfl ?_
      refine g_iload_n C dX7_isGradedNow_23 rfl 2 rfl ?_
      obtain ⟨r9, hr10, h⟩ := bd_of h
      refine g_callVi C (kX7_covers l Z a0 a0_buffer a0_now a0_made a0_history a0_saved a0_closed a0_faces a0_rankOf a0_placeOf a0_counted a0_steps a0_onto a0_goes a0_firstImage (s7_isLaid (s7_faceMany (s7_placeOf (s7_rankOf (s7_faces (s7_closed o0 (q7_closed r1)) (q7_faces r1)) (q7_rankOf r1)) (q7_placeOf r1)) (q7_faceMany r1)) (q7_isLaid r1)) v3 v6 r9 hr10) 0 rfl (ci := 7) rfl rfl myX7_covers 241 mw_6_152 rfl [0, 2, 3] [1, 4, 5] [3, 0, 4, 5, 1, 2] (wr := [(a0_now, .inl (zI Z, 12, .inl (q7_now o0))), (a0_rankOf, .inl (zI Z, 256, .inl (q7_rankOf r1))), (a0_placeOf, .inl (zI Z, 256, .inl (q7_placeOf r1)))]) rfl rfl (by decide) (by decide) (by decide) [(a0, .inr (7, [.int (q7_thrown o0), .ref a0_buffer, .int (q7_length o0), .int (q7_at o0), .int (q7_from o0), .int (q7_kind o0), .int (q7_number o0), .int (q7_wrong o0), .ref a0_now, .ref a0_made, .ref a0_history, .ref a0_saved, .int (q7_entries o0), .int (q7_isSaved o0), .ref a0_closed, .ref a0_faces, .ref a0_rankOf, .ref a0_placeOf, .int (q7_faceMany r1), .int (q7_isLaid r1), .ref a0_counted, .ref a0_steps, .ref a0_onto, .ref a0_goes, .int (q7_found o0), .int (q7_images o0), .ref a0_firstImage, .int (q7_gathered o0)])), (a0_now, .inl (zI Z, 12, .inl (q7_now o0))), (a0_closed, .inl (zI Z, 256, .inl (q7_closed r1))), (a0_faces, .inl (zI Z, 256, .inl (q7_faces r1))), (a0_rankOf, .inl (zI Z, 256, .inl (q7_rankOf r1))), (a0_placeOf, .inl (zI Z, 256, .inl (q7_placeOf r1)))] rfl (by decide) (Nat.le_of_ble_eq_true rfl) (by rw [hR]; exact Nat.le_of_ble_eq_true rfl) (by rw [hR]; exact Nat.le_of_ble_eq_true rfl) ⟨by rw [hR]; exact Nat.le_of_ble_eq_true rfl, by rw [hR]; exact Nat.le_of_ble_eq_true rfl⟩ rfl dX7_isGradedNow_24 ?_
      refine g_if_eq C 47 dX7_isGradedNow_27 (by decide) (fun c11 => ?_) (fun c11 => ?_)
      · replace h := it_t c11 h
        refine g_iinc C (v6 + 1) dX7_isGradedNow_47 2 rfl rfl (by decide) [(2, .int (v6 + 1)), (0, .ref a0), (1, .int v3)] rfl ?_
        refine g_goto C 16 dX7_isGradedNow_50 (by decide) ?_
        refine g_lv [1, 2, 0] [(0, .ref a0), (1, .int v3), (2, .int (v6 + 1))] rfl ?_
        exact hk2 (v6 + 1) (Option.some.inj h).symm
      · replace h := it_f c11 h
        refine g_aload_n C dX7_isGradedNow_30 rfl 0 rfl ?_
        refine g_iload_n C dX7_isGradedNow_31 rfl 1 rfl ?_
        obtain ⟨r12, hr13, h⟩ := bd_of h
        refine g_callVi C (kX7_rankAt l Z a0 a0_buffer a0_now a0_made a0_history a0_saved a0_closed a0_faces a0_rankOf a0_placeOf a0_counted a0_steps a0_onto a0_goes a0_firstImage (s7_isLaid (s7_faceMany (s7_placeOf (s7_rankOf (s7_faces (s7_closed o0 (q7_closed r1)) (q7_faces r1)) (q7_rankOf r1)) (q7_placeOf r1)) (q7_faceMany r1)) (q7_isLaid r1)) v3 r12 hr13) 0 rfl (ci := 7) rfl rfl myX7_rankAt 263 mw_6_221 rfl [0, 3, 4] [1, 2, 5] [3, 0, 1, 4, 5, 2] (wr := [(a0_now, .inl (zI Z, 12, .inl (q7_now o0))), (a0_closed, .inl (zI Z, 256, .inl (q7_closed r1))), (a0_placeOf, .inl (zI Z, 256, .inl (q7_placeOf r1)))]) rfl rfl (by decide) (by decide) (by decide) [(a0, .inr (7, [.int (q7_thrown o0), .ref a0_buffer, .int (q7_length o0), .int (q7_at o0), .int (q7_from o0), .int (q7_kind o0), .int (q7_number o0), .int (q7_wrong o0), .ref a0_now, .ref a0_made, .ref a0_history, .ref a0_saved, .int (q7_entries o0), .int (q7_isSaved o0), .ref a0_closed, .ref a0_faces, .ref a0_rankOf, .ref a0_placeOf, .int (q7_faceMany r1), .int (q7_isLaid r1), .ref a0_counted, .ref a0_steps, .ref a0_onto, .ref a0_goes, .int (q7_found o0), .int (q7_images o0), .ref a0_firstImage, .int (q7_gathered o0)])), (a0_now, .inl (zI Z, 12, .inl (q7_now o0))), (a0_closed, .inl (zI Z, 256, .inl (q7_closed r1))), (a0_faces, .inl (zI Z, 256, .inl (q7_faces r1))), (a0_rankOf, .inl (zI Z, 256, .inl (q7_rankOf r1))), (a0_placeOf, .inl (zI Z, 256, .inl (q7_placeOf r1)))] rfl (by decide) (Nat.le_of_ble_eq_true rfl) (by rw [hR]; exact Nat.le_of_ble_eq_true rfl) (by rw [hR]; exact Nat.le_of_ble_eq_true rfl) ⟨by rw [hR]; exact Nat.le_of_ble_eq_true rfl, by rw [hR]; exact Nat.le_of_ble_eq_true rfl⟩ rfl dX7_isGradedNow_32 ?_
        refine g_aload_n C dX7_isGradedNow_35 rfl 0 rfl ?_
        refine g_iload_n C dX7_isGradedNow_36 rfl 2 rfl ?_
        obtain ⟨r14, hr15, h⟩ := bd_of h
        refine g_callVi C (kX7_rankAt l Z a0 a0_buffer a0_now a0_made a0_history a0_saved a0_closed a0_faces a0_rankOf a0_placeOf a0_counted a0_steps a0_onto a0_goes a0_firstImage (s7_isLaid (s7_faceMany (s7_placeOf (s7_rankOf (s7_faces (s7_closed o0 (q7_closed r1)) (q7_faces r1)) (q7_rankOf r1)) (q7_placeOf r1)) (q7_faceMany r1)) (q7_isLaid r1)) v6 r14 hr15) 0 rfl (ci := 7) rfl rfl myX7_rankAt 263 mw_6_221 rfl [0, 3, 4] [1, 2, 5] [3, 0, 1, 4, 5, 2] (wr := [(a0_now, .inl (zI Z, 12, .inl (q7_now o0))), (a0_closed, .inl (zI Z, 256, .inl (q7_closed r1))), (a0_placeOf, .inl (zI Z, 256, .inl (q7_placeOf r1)))]) rfl rfl (by decide) (by decide) (by decide) [(a0, .inr (7, [.int (q7_thrown o0), .ref a0_buffer, .int (q7_length o0), .int (q7_at o0), .int (q7_from o0), .int (q7_kind o0), .int (q7_number o0), .int (q7_wrong o0), .ref a0_now, .ref a0_made, .ref a0_history, .ref a0_saved, .int (q7_entries o0), .int (q7_isSaved o0), .ref a0_closed, .ref a0_faces, .ref a0_rankOf, .ref a0_placeOf, .int (q7_faceMany r1), .int (q7_isLaid r1), .ref a0_counted, .ref a0_steps, .ref a0_onto, .ref a0_goes, .int (q7_found o0), .int (q7_images o0), .ref a0_firstImage, .int (q7_gathered o0)])), (a0_now, .inl (zI Z, 12, .inl (q7_now o0))), (a0_closed, .inl (zI Z, 256, .inl (q7_closed r1))), (a0_faces, .inl (zI Z, 256, .inl (q7_faces r1))), (a0_rankOf, .inl (zI Z, 256, .inl (q7_rankOf r1))), (a0_placeOf, .inl (zI Z, 256, .inl (q7_placeOf r1)))] rfl (by decide) (Nat.le_of_ble_eq_true rfl) (by rw [hR]; exact Nat.le_of_ble_eq_true rfl) (by rw [hR]; exact Nat.le_of_ble_eq_true rfl) ⟨by rw [hR]; exact Nat.le_of_ble_eq_true rfl, by rw [hR]; exact Nat.le_of_ble_eq_true rfl⟩ rfl dX7_isGradedNow_37 ?_
        refine g_iconst C 1 dX7_isGradedNow_40 (by decide) ?_
        refine g_iadd C dX7_isGradedNow_41 ?_
        refine g_icmp_eq C 47 dX7_isGradedNow_42 (by decide) (fun c16 => ?_) (fun c16 => ?_)
        · replace h := it_t c16 h
          refine g_iinc C (v6 + 1) dX7_isGradedNow_47 2 rfl rfl (by decide) [(2, .int (v6 + 1)), (0, .ref a0), (1, .int v3)] rfl ?_
          refine g_goto C 16 dX7_isGradedNow_50 (by decide) ?_
          refine g_lv [1, 2, 0] [(0, .ref a0), (1, .int v3), (2, .int (v6 + 1))] rfl ?_
          exact hk2 (v6 + 1) (Option.some.inj h).symm
        · replace h := it_f c16 h
          obtain ⟨r17, h, hy⟩ := ex_of h
          rw [hx2 r17 hy] at h
          obtain ⟨r18, h, hy⟩ := ex_of h
          rw [hx1 r18 hy] at h
          refine g_iconst C 0 dX7_isGradedNow_45 (by decide) ?_
          obtain rfl := Option.some.inj h
          subst hQ
          exact g_zret C rfl (Or.inl rfl) hr hlk dX7_isGradedNow_46 [0, 1, 2, 3, 4, 5] rfl (by decide)
def fX7_isGraded (o0 : OX7) : Option (Int32 × OX7) :=
  (fX7_isGradedNow (s7_thrown o0 0)).bind fun r1 =>
  (ck (is01 r1.1) (some (r1.1, (s7_isLaid (s7_faceMany (s7_placeOf (s7_rankOf (s7_faces (s7_closed (s7_thrown o0 0) (q7_closed r1.2)) (q7_faces r1.2)) (q7_rankOf r1.2)) (q7_placeOf r1.2)) (q7_faceMany r1.2)) (q7_isLaid r1.2)))))
theorem myX7_isGraded : MYv yX7_isGraded cX7_isGraded 1 (some .boolean) 0 := ⟨mw_7_46, mw_7_47, mw_7_48, mw_1_9, ⟨by decide +kernel, by decide +kernel⟩, by decide +kernel⟩
set_option maxRecDepth 100000 in
set_option maxHeartbeats 4000000 in
theorem kX7_isGraded (l : Launch) (Z : GZ) (a0 a0_buffer a0_now a0_made a0_history a0_saved a0_closed a0_faces a0_rankOf a0_placeOf a0_counted a0_steps a0_onto a0_goes a0_firstImage : Nat) (o0 : OX7) (res : Int32 × OX7) (h : fX7_isGraded o0 = some res) : MI l Z yX7_isGraded cX7_isGraded 1 .boolean 5 111 [.ref a0] [(a0, .inr (7, [.int (q7_thrown o0), .ref a0_buffer, .int (q7_length o0), .int (q7_at o0), .int (q7_from o0), .int (q7_kind o0), .int (q7_number o0), .int (q7_wrong o0), .ref a0_now, .ref a0_made, .ref a0_history, .ref a0_saved, .int (q7_entries o0), .int (q7_isSaved o0), .ref a0_closed, .ref a0_faces, .ref a0_rankOf, .ref a0_placeOf, .int (q7_faceMany o0), .int (q7_isLaid o0), .ref a0_counted, .ref a0_steps, .ref a0_onto, .ref a0_goes, .int (q7_found o0), .int (q7_images o0), .ref a0_firstImage, .int (q7_gathered o0)])), (a0_now, .inl (zI Z, 12, .inl (q7_now o0))), (a0_closed, .inl (zI Z, 256, .inl (q7_closed o0))), (a0_faces, .inl (zI Z, 256, .inl (q7_faces o0))), (a0_rankOf, .inl (zI Z, 256, .inl (q7_rankOf o0))), (a0_placeOf, .inl (zI Z, 256, .inl (q7_placeOf o0)))] res.1 [(a0, .inr (7, [.int (q7_thrown res.2), .ref a0_buffer, .int (q7_length o0), .int (q7_at o0), .int (q7_from o0), .int (q7_kind o0), .int (q7_number o0), .int (q7_wrong o0), .ref a0_now, .ref a0_made, .ref a0_history, .ref a0_saved, .int (q7_entries o0), .int (q7_isSaved o0), .ref a0_closed, .ref a0_faces, .ref a0_rankOf, .ref a0_placeOf, .int (q7_faceMany res.2), .int (q7_isLaid res.2), .ref a0_counted, .ref a0_steps, .ref a0_onto, .ref a0_goes, .int (q7_found o0), .int (q7_images o0), .ref a0_firstImage, .int (q7_gathered o0)])), (a0_now, .inl (zI Z, 12, .inl (q7_now o0))), (a0_closed, .inl (zI Z, 256, .inl (q7_closed res.2))), (a0_faces, .inl (zI Z, 256, .inl (q7_faces res.2))), (a0_rankOf, .inl (zI Z, 256, .inl (q7_rankOf res.2))), (a0_placeOf, .inl (zI Z, 256, .inl (q7_placeOf res.2)))] := by
  refine MI_of (by decide +kernel) (Nat.le_of_ble_eq_true rfl) (fun {p e s m args below meth c} A R hR Q hQ C hr hlk => ?_)
  unfold fX7_isGraded at h
  refine g_lv [0] [(0, .ref a0)] rfl ?_
  refine g_aload_n C dX7_isGraded_0 rfl 0 rfl ?_
  refine g_iconst C 0 dX7_isGraded_1 (by decide) ?_
  refine g_put C 7 52 gin7 tyX7 tyX7_ok nmX7 0 rfl rfl 0 (by decide) mw_5_85 rfl rfl (ty := .int) (by decide +kernel) rfl rfl (Nat.le_of_ble_eq_true rfl) [(a0, .inr (7, [.int 0, .ref a0_buffer, .int (q7_length o0), .int (q7_at o0), .int (q7_from o0), .int (q7_kind o0), .int (q7_number o0), .int (q7_wrong o0), .ref a0_now, .ref a0_made, .ref a0_history, .ref a0_saved, .int (q7_entries o0), .int (q7_isSaved o0), .ref a0_closed, .ref a0_faces, .ref a0_rankOf, .ref a0_placeOf, .int (q7_faceMany o0), .int (q7_isLaid o0), .ref a0_counted, .ref a0_steps, .ref a0_onto, .ref a0_goes, .int (q7_found o0), .int (q7_images o0), .ref a0_firstImage, .int (q7_gathered o0)])), (a0_now, .inl (zI Z, 12, .inl (q7_now o0))), (a0_closed, .inl (zI Z, 256, .inl (q7_closed o0))), (a0_faces, .inl (zI Z, 256, .inl (q7_faces o0))), (a0_rankOf, .inl (zI Z, 256, .inl (q7_rankOf o0))), (a0_placeOf, .inl (zI Z, 256, .inl (q7_placeOf o0)))] rfl dX7_isGraded_2 ?_
  refine g_aload_n C dX7_isGraded_5 rfl 0 rfl ?_
  obtain ⟨r1, hr2, h⟩ := bd_of h
  refine g_callVi C (kX7_isGradedNow l Z a0 a0_buffer a0_now a0_made a0_history a0_saved a0_closed a0_faces a0_rankOf a0_placeOf a0_counted a0_steps a0_onto a0_goes a0_firstImage (s7_thrown o0 0) r1 hr2) 0 rfl (ci := 7) rfl rfl myX7_isGradedNow 284 mw_7_49 rfl [0, 1, 2, 3, 4, 5] [] [0, 1, 2, 3, 4, 5] (wr := []) rfl rfl (by decide) (by decide) (by decide) [(a0, .inr (7, [.int 0, .ref a0_buffer, .int (q7_length o0), .int (q7_at o0), .int (q7_from o0), .int (q7_kind o0), .int (q7_number o0), .int (q7_wrong o0), .ref a0_now, .ref a0_made, .ref a0_history, .ref a0_saved, .int (q7_entries o0), .int (q7_isSaved o0), .ref a0_closed, .ref a0_faces, .ref a0_rankOf, .ref a0_placeOf, .int (q7_faceMany r1.2), .int (q7_isLaid r1.2), .ref a0_counted, .ref a0_steps, .ref a0_onto, .ref a0_goes, .int (q7_found o0), .int (q7_images o0), .ref a0_firstImage, .int (q7_gathered o0)])), (a0_now, .inl (zI Z, 12, .inl (q7_now o0))), (a0_closed, .inl (zI Z, 256, .inl (q7_closed r1.2))), (a0_faces, .inl (zI Z, 256, .inl (q7_faces r1.2))), (a0_rankOf, .inl (zI Z, 256, .inl (q7_rankOf r1.2))), (a0_placeOf, .inl (zI Z, 256, .inl (q7_placeOf r1.2)))] rfl (by decide) (Nat.le_of_ble_eq_true rfl) (by rw [hR]; exact Nat.le_of_ble_eq_true rfl) (by rw [hR]; exact Nat.le_of_ble_eq_true rfl) ⟨by rw [hR]; exact Nat.le_of_ble_eq_true rfl, by rw [hR]; exact Nat.le_of_ble_eq_true rfl⟩ rfl dX7_isGraded_6 ?_
  obtain ⟨hb, h⟩ := ck_of h
  obtain rfl := Option.some.inj h
  subst hQ
  exact g_zret C rfl (is01_of hb) hr hlk dX7_isGraded_9 [0, 1, 2, 3, 4, 5] rfl (by decide)
def fX7_alternating_L13 (o0 : OX7) (r1 : OX7) (v3 : Int32 × Int32) : Option ((Int32 × Int32) ⊕ (Int32 × OX7)) :=
  if (q7_faceMany r1) ≤ v3.2 then (ex (some (v3.1, (s7_isLaid (s7_faceMany (s7_placeOf (s7_rankOf (s7_faces (s7_closed (s7_thrown o0 0) (q7_closed r1)) (q7_faces r1)) (q7_rankOf r1)) (q7_placeOf r1)) (q7_faceMany r1)) (q7_isLaid r1)))))
  else ((fX7_rankAt (s7_isLaid (s7_faceMany (s7_placeOf (s7_rankOf (s7_faces (s7_closed (s7_thrown o0 0) (q7_closed r1)) (q7_faces r1)) (q7_rankOf r1)) (q7_placeOf r1)) (q7_faceMany r1)) (q7_isLaid r1)) v3.2).bind fun r6 =>
  (if (jrem r6 2) = 0 then (some (.inl ((v3.1 + 1), (v3.2 + 1))))
  else (some (.inl ((v3.1 + (-1)), (v3.2 + 1))))))
def fX7_alternating (o0 : OX7) : Option (Int32 × OX7) :=
  (fX7_lay (s7_thrown o0 0)).bind fun r1 =>
  (lp (fX7_alternating_L13 o0 r1) lpN (0, 0))
theorem myX7_alternating : MYv yX7_alternating cX7_alternating 3 (some .int) 0 := ⟨mw_7_54, mw_7_55, mw_7_56, mw_1_9, ⟨by decide +kernel, by decide +kernel⟩, by decide +kernel⟩
set_option maxRecDepth 100000 in
set_option maxHeartbeats 4000000 in
theorem kX7_alternating (l : Launch) (Z : GZ) (a0 a0_buffer a0_now a0_made a0_history a0_saved a0_closed a0_faces a0_rankOf a0_placeOf a0_counted a0_steps a0_onto a0_goes a0_firstImage : Nat) (o0 : OX7) (res : Int32 × OX7) (h : fX7_alternating o0 = some res) : MI l Z yX7_alternating cX7_alternating 3 .int 4 89 [.ref a0] [(a0, .inr (7, [.int (q7_thrown o0), .ref a0_buffer, .int (q7_length o0), .int (q7_at o0), .int (q7_from o0), .int (q7_kind o0), .int (q7_number o0), .int (q7_wrong o0), .ref a0_now, .ref a0_made, .ref a0_history, .ref a0_saved, .int (q7_entries o0), .int (q7_isSaved o0), .ref a0_closed, .ref a0_faces, .ref a0_rankOf, .ref a0_placeOf, .int (q7_faceMany o0), .int (q7_isLaid o0), .ref a0_counted, .ref a0_steps, .ref a0_onto, .ref a0_goes, .int (q7_found o0), .int (q7_images o0), .ref a0_firstImage, .int (q7_gathered o0)])), (a0_now, .inl (zI Z, 12, .inl (q7_now o0))), (a0_closed, .inl (zI Z, 256, .inl (q7_closed o0))), (a0_faces, .inl (zI Z, 256, .inl (q7_faces o0))), (a0_rankOf, .inl (zI Z, 256, .inl (q7_rankOf o0))), (a0_placeOf, .inl (zI Z, 256, .inl (q7_placeOf o0)))] res.1 [(a0, .inr (7, [.int (q7_thrown res.2), .ref a0_buffer, .int (q7_length o0), .int (q7_at o0), .int (q7_from o0), .int (q7_kind o0), .int (q7_number o0), .int (q7_wrong o0), .ref a0_now, .ref a0_made, .ref a0_history, .ref a0_saved, .int (q7_entries o0), .int (q7_isSaved o0), .ref a0_closed, .ref a0_faces, .ref a0_rankOf, .ref a0_placeOf, .int (q7_faceMany res.2), .int (q7_isLaid res.2), .ref a0_counted, .ref a0_steps, .ref a0_onto, .ref a0_goes, .int (q7_found o0), .int (q7_images o0), .ref a0_firstImage, .int (q7_gathered o0)])), (a0_now, .inl (zI Z, 12, .inl (q7_now o0))), (a0_closed, .inl (zI Z, 256, .inl (q7_closed res.2))), (a0_faces, .inl (zI Z, 256, .inl (q7_faces res.2))), (a0_rankOf, .inl (zI Z, 256, .inl (q7_rankOf res.2))), (a0_placeOf, .inl (zI Z, 256, .inl (q7_placeOf res.2)))] := by
  refine MI_of (by decide +kernel) (Nat.le_of_ble_eq_true rfl) (fun {p e s m args below meth c} A R hR Q hQ C hr hlk => ?_)
  unfold fX7_alternating at h
  refine g_lv [0] [(0, .ref a0)] rfl ?_
  refine g_aload_n C dX7_alternating_0 rfl 0 rfl ?_
  refine g_iconst C 0 dX7_alternating_1 (by decide) ?_
  refine g_put C 7 52 gin7 tyX7 tyX7_ok nmX7 0 rfl rfl 0 (by decide) mw_5_85 rfl rfl (ty := .int) (by decide +kernel) rfl rfl (Nat.le_of_ble_eq_true rfl) [(a0, .inr (7, [.int 0, .ref a0_buffer, .int (q7_length o0), .int (q7_at o0), .int (q7_from o0), .int (q7_kind o0), .int (q7_number o0), .int (q7_wrong o0), .ref a0_now, .ref a0_made, .ref a0_history, .ref a0_saved, .int (q7_entries o0), .int (q7_isSaved o0), .ref a0_closed, .ref a0_faces, .ref a0_rankOf, .ref a0_placeOf, .int (q7_faceMany o0), .int (q7_isLaid o0), .ref a0_counted, .ref a0_steps, .ref a0_onto, .ref a0_goes, .int (q7_found o0), .int (q7_images o0), .ref a0_firstImage, .int (q7_gathered o0)])), (a0_now, .inl (zI Z, 12, .inl (q7_now o0))), (a0_closed, .inl (zI Z, 256, .inl (q7_closed o0))), (a0_faces, .inl (zI Z, 256, .inl (q7_faces o0))), (a0_rankOf, .inl (zI Z, 256, .inl (q7_rankOf o0))), (a0_placeOf, .inl (zI Z, 256, .inl (q7_placeOf o0)))] rfl dX7_alternating_2 ?_
  refine g_aload_n C dX7_alternating_5 rfl 0 rfl ?_
  obtain ⟨r1, hr2, h⟩ := bd_of h
  refine g_callVv C (kX7_lay l Z a0 a0_buffer a0_now a0_made a0_history a0_saved a0_closed a0_faces a0_rankOf a0_placeOf a0_counted a0_steps a0_onto a0_goes a0_firstImage (s7_thrown o0 0) r1 hr2) 0 rfl (ci := 7) rfl rfl myX7_lay 217 mw_6_120 rfl [0, 1, 2, 3, 4, 5] [] [0, 1, 2, 3, 4, 5] (wr := []) rfl rfl (by decide) (by decide) (by decide) [(a0, .inr (7, [.int 0, .ref a0_buffer, .int (q7_length o0), .int (q7_at o0), .int (q7_from o0), .int (q7_kind o0), .int (q7_number o0), .int (q7_wrong o0), .ref a0_now, .ref a0_made, .ref a0_history, .ref a0_saved, .int (q7_entries o0), .int (q7_isSaved o0), .ref a0_closed, .ref a0_faces, .ref a0_rankOf, .ref a0_placeOf, .int (q7_faceMany r1), .int (q7_isLaid r1), .ref a0_counted, .ref a0_steps, .ref a0_onto, .ref a0_goes, .int (q7_found o0), .int (q7_images o0), .ref a0_firstImage, .int (q7_gathered o0)])), (a0_now, .inl (zI Z, 12, .inl (q7_now o0))), (a0_closed, .inl (zI Z, 256, .inl (q7_closed r1))), (a0_faces, .inl (zI Z, 256, .inl (q7_faces r1))), (a0_rankOf, .inl (zI Z, 256, .inl (q7_rankOf r1))), (a0_placeOf, .inl (zI Z, 256, .inl (q7_placeOf r1)))] rfl (by decide) (Nat.le_of_ble_eq_true rfl) (by rw [hR]; exact Nat.le_of_ble_eq_true rfl) (by rw [hR]; exact Nat.le_of_ble_eq_true rfl) ⟨by rw [hR]; exact Nat.le_of_ble_eq_true rfl, by rw [hR]; exact Nat.le_of_ble_eq_true rfl⟩ rfl dX7_alternating_6 ?_
  refine g_iconst C 0 dX7_alternating_9 (by decide) ?_
  refine g_istore_n C dX7_alternating_10 rfl (by decide) [(1, .int 0), (0, .ref a0)] rfl ?_
  refine g_iconst C 0 dX7_alternating_11 (by decide) ?_
  refine g_istore_n C dX7_alternating_12 rfl (by decide) [(2, .int 0), (1, .int 0), (0, .ref a0)] rfl ?_
  refine g_lv [2, 1, 0] [(0, .ref a0), (1, .int 0), (2, .int 0)] rfl ?_
  refine g_loop (lvf := fun v3 => [(0, .ref a0), (1, .int v3.1), (2, .int v3.2)]) (wsf := fun v3 => [(a0, .inr (7, [.int 0, .ref a0_buffer, .int (q7_length o0), .int (q7_at o0), .int (q7_from o0), .int (q7_kind o0), .int (q7_number o0), .int (q7_wrong o0), .ref a0_now, .ref a0_made, .ref a0_history, .ref a0_saved, .int (q7_entries o0), .int (q7_isSaved o0), .ref a0_closed, .ref a0_faces, .ref a0_rankOf, .ref a0_placeOf, .int (q7_faceMany r1), .int (q7_isLaid r1), .ref a0_counted, .ref a0_steps, .ref a0_onto, .ref a0_goes, .int (q7_found o0), .int (q7_images o0), .ref a0_firstImage, .int (q7_gathered o0)])), (a0_now, .inl (zI Z, 12, .inl (q7_now o0))), (a0_closed, .inl (zI Z, 256, .inl (q7_closed r1))), (a0_faces, .inl (zI Z, 256, .inl (q7_faces r1))), (a0_rankOf, .inl (zI Z, 256, .inl (q7_rankOf r1))), (a0_placeOf, .inl (zI Z, 256, .inl (q7_placeOf r1)))]) h (fun v3 y1 h hk1 hx1 => ?_)
  refine g_eq (lv1 := [(0, .ref a0), (1, .int v3.1), (2, .int v3.2)]) (st1 := []) (ws1 := [(a0, .inr (7, [.int 0, .ref a0_buffer, .int (q7_length o0), .int (q7_at o0), .int (q7_from o0), .int (q7_kind o0), .int (q7_number o0), .int (q7_wrong o0), .ref a0_now, .ref a0_made, .ref a0_history, .ref a0_saved, .int (q7_entries o0), .int (q7_isSaved o0), .ref a0_closed, .ref a0_faces, .ref a0_rankOf, .ref a0_placeOf, .int (q7_faceMany r1), .int (q7_isLaid r1), .ref a0_counted, .ref a0_steps, .ref a0_onto, .ref a0_goes, .int (q7_found o0), .int (q7_images o0), .ref a0_firstImage, .int (q7_gathered o0)])), (a0_now, .inl (zI Z, 12, .inl (q7_now o0))), (a0_closed, .inl (zI Z, 256, .inl (q7_closed r1))), (a0_faces, .inl (zI Z, 256, .inl (q7_faces r1))), (a0_rankOf, .inl (zI Z, 256, .inl (q7_rankOf r1))), (a0_placeOf, .inl (zI Z, 256, .inl (q7_placeOf r1)))]) rfl rfl rfl rfl ?_
  unfold fX7_alternating_L13 at h
  refine g_iload_n C dX7_alternating_13 rfl 2 rfl ?_
  refine g_aload_n C dX7_alternating_14 rfl 0 rfl ?_
  refine g_get C 7 214 gin7 0 rfl rfl 18 (by decide) mw_5_103 rfl rfl dX7_alternating_15 ?_
  refine g_icmp_ge C 45 dX7_alternating_18 (by decide) (fun c4 => ?_) (fun c4 => ?_)
  · replace h := it_t c4 h
    obtain ⟨r5, h, hy⟩ := ex_of h
    rw [hx1 r5 hy] at h
    refine g_iload_n C dX7_alternating_45 rfl 1 rfl ?_
    obtain rfl := Option.some.inj h
    subst hQ
    exact g_iret C rfl hr hlk dX7_alternating_46 [0, 1, 2, 3, 4, 5] rfl (by decide)
  · replace h := it_f c4 h
    refine g_iload_n C dX7_alternating_21 rfl 1 rfl ?_
    refine g_aload_n C dX7_alternating_22 rfl 0 rfl ?_
    refine g_iload_n C dX7_alternating_23 rfl 2 rfl ?_
    obtain ⟨r6, hr7, h⟩ := bd_of h
    refine g_callVi C (kX7_rankAt l Z a0 a0_buffer a0_now a0_made a0_history a0_saved a0_closed a0_faces a0_rankOf a0_placeOf a0_counted a0_steps a0_onto a0_goes a0_firstImage (s7_isLaid (s7_faceMany (s7_placeOf (s7_rankOf (s7_faces (s7_closed (s7_thrown o0 0) (q7_closed r1)) (q7_faces r1)) (q7_rankOf r1)) (q7_placeOf r1)) (q7_faceMany r1)) (q7_isLaid r1)) v3.2 r6 hr7) 0 rfl (ci := 7) rfl rfl myX7_rankAt 263 mw_6_221 rfl [0, 3, 4] [1, 2, 5] [3, 0, 1, 4, 5, 2] (wr := [(a0_now, .inl (zI Z, 12, .inl (q7_now o0))), (a0_closed, .inl (zI Z, 256, .inl (q7_closed r1))), (a0_placeOf, .inl (zI Z, 256, .inl (q7_placeOf r1)))]) rfl rfl (by decide) (by decide) (by decide) [(a0, .inr (7, [.int 0, .ref a0_buffer, .int (q7_length o0), .int (q7_at o0), .int (q7_from o0), .int (q7_kind o0), .int (q7_number o0), .int (q7_wrong o0), .ref a0_now, .ref a0_made, .ref a0_history, .ref a0_saved, .int (q7_entries o0), .int (q7_isSaved o0), .ref a0_closed, .ref a0_faces, .ref a0_rankOf, .ref a0_placeOf, .int (q7_faceMany r1), .int (q7_isLaid r1), .ref a0_counted, .ref a0_steps, .ref a0_onto, .ref a0_goes, .int (q7_found o0), .int (q7_images o0), .ref a0_firstImage, .int (q7_gathered o0)])), (a0_now, .inl (zI Z, 12, .inl (q7_now o0))), (a0_closed, .inl (zI Z, 256, .inl (q7_closed r1))), (a0_faces, .inl (zI Z, 256, .inl (q7_faces r1))), (a0_rankOf, .inl (zI Z, 256, .inl (q7_rankOf r1))), (a0_placeOf, .inl (zI Z, 256, .inl (q7_placeOf r1)))] rfl (by decide) (Nat.le_of_ble_eq_true rfl) (by rw [hR]; exact Nat.le_of_ble_eq_true rfl) (by rw [hR]; exact Nat.le_of_ble_eq_true rfl) ⟨by rw [hR]; exact Nat.le_of_ble_eq_true rfl, by rw [hR]; exact Nat.le_of_ble_eq_true rfl⟩ rfl dX7_alternating_24 ?_
    refine g_iconst C 2 dX7_alternating_27 (by decide) ?_
    refine g_irem C dX7_alternating_28 (by decide) ?_
    refine g_if_ne C 36 dX7_alternating_29 (by decide) (fun c8 => ?_) (fun c8 => ?_)
    · replace h := it_f c8 h
      refine g_iconst C (-1) dX7_alternating_36 (by decide) ?_
      refine g_iadd C dX7_alternating_37 ?_
      refine g_istore_n C dX7_alternating_38 rfl (by decide) [(1, .int (v3.1 + (-1))), (0, .ref a0), (2, .int v3.2)] rfl ?_
      refine g_iinc C (v3.2 + 1) dX7_alternating_39 2 rfl rfl (by decide) [(2, .int (v3.2 + 1)), (1, .int (v3.1 + (-1))), (0, .ref a0)] rfl ?_
      refine g_goto C 13 dX7_alternating_42 (by decide) ?_
      refine g_lv [2, 1, 0] [(0, .ref a0), (1, .int (v3.1 + (-1))), (2, .int (v3.2 + 1))] rfl ?_
      have q9 := hk1 ((v3.1 + (-1)), (v3.2 + 1)) (Option.some.inj h).symm
      dsimp only at q9
      exact q9
    · replace h := it_t c8 h
      refine g_iconst C 1 dX7_alternating_32 (by decide) ?_
      refine g_goto C 37 dX7_alternating_33 (by decide) ?_
      refine g_iadd C dX7_alternating_37 ?_
      refine g_istore_n C dX7_alternating_38 rfl (by decide) [(1, .int (v3.1 + 1)), (0, .ref a0), (2, .int v3.2)] rfl ?_
      refine g_iinc C (v3.2 + 1) dX7_alternating_39 2 rfl rfl (by decide) [(2, .int (v3.2 + 1)), (1, .int (v3.1 + 1)), (0, .ref a0)] rfl ?_
      refine g_goto C 13 dX7_alternating_42 (by decide) ?_
      refine g_lv [2, 1, 0] [(0, .ref a0), (1, .int (v3.1 + 1)), (2, .int (v3.2 + 1))] rfl ?_
      exact hk1 ((v3.1 + 1), (v3.2 + 1)) (Option.some.inj h).symm
def fX7_isEulerian_L31 (o0 : OX7) (r1 : Int32 × OX7) (v4 : Int32 × (Nat → Int32)) (r7 : OX7) (v9 : Int32) : Option ((Int32) ⊕ ((Int32 × (Nat → Int32)) ⊕ (Int32 × OX7))) :=
  if (q7_faceMany r1.2) ≤ v9 then (ex (some (.inl ((v4.1 + 1), (q7_counted r7)))))
  else ((fX7_isIn (s7_counted (s7_isLaid (s7_faceMany (s7_placeOf (s7_rankOf (s7_faces (s7_closed (s7_thrown o0 0) (q7_closed r1.2)) (q7_faces r1.2)) (q7_rankOf r1.2)) (q7_placeOf r1.2)) (q7_faceMany r1.2)) (q7_isLaid r1.2)) (q7_counted r7)) v4.1 v9).bind fun r12 =>
  (if r12 = 0 then (some (.inl (v9 + 1)))
  else (ck (okI v9 256) ((fX7_rankAt (s7_counted (s7_isLaid (s7_faceMany (s7_placeOf (s7_rankOf (s7_faces (s7_closed (s7_thrown o0 0) (q7_closed r1.2)) (q7_faces r1.2)) (q7_rankOf r1.2)) (q7_placeOf r1.2)) (q7_faceMany r1.2)) (q7_isLaid r1.2)) (q7_counted r7)) v9).bind fun r16 =>
  ((fX7_rankAt (s7_counted (s7_isLaid (s7_faceMany (s7_placeOf (s7_rankOf (s7_faces (s7_closed (s7_thrown o0 0) (q7_closed r1.2)) (q7_faces r1.2)) (q7_rankOf r1.2)) (q7_placeOf r1.2)) (q7_faceMany r1.2)) (q7_isLaid r1.2)) (q7_counted r7)) v4.1).bind fun r18 =>
  (if (jrem (r16 - r18) 2) = 0 then (if ((q7_counted r7) (ix v9)) = 1 then (some (.inl (v9 + 1)))
  else (ex (ex (some (0, (s7_counted (s7_isLaid (s7_faceMany (s7_placeOf (s7_rankOf (s7_faces (s7_closed (s7_thrown o0 0) (q7_closed r1.2)) (q7_faces r1.2)) (q7_rankOf r1.2)) (q7_placeOf r1.2)) (q7_faceMany r1.2)) (q7_isLaid r1.2)) (q7_counted r7)))))))
  else (if ((q7_counted r7) (ix v9)) = (-1) then (some (.inl (v9 + 1)))
  else (ex (ex (some (0, (s7_counted (s7_isLaid (s7_faceMany (s7_placeOf (s7_rankOf (s7_faces (s7_closed (s7_thrown o0 0) (q7_closed r1.2)) (q7_faces r1.2)) (q7_rankOf r1.2)) (q7_placeOf r1.2)) (q7_faceMany r1.2)) (q7_isLaid r1.2)) (q7_counted r7)))))))))))))
def fX7_isEulerian_L16 (o0 : OX7) (r1 : Int32 × OX7) (v4 : Int32 × (Nat → Int32)) : Option ((Int32 × (Nat → Int32)) ⊕ (Int32 × OX7)) :=
  if (q7_faceMany r1.2) ≤ v4.1 then (ex (some (1, (s7_counted (s7_isLaid (s7_faceMany (s7_placeOf (s7_rankOf (s7_faces (s7_closed (s7_thrown o0 0) (q7_closed r1.2)) (q7_faces r1.2)) (q7_rankOf r1.2)) (q7_placeOf r1.2)) (q7_faceMany r1.2)) (q7_isLaid r1.2)) v4.2))))
  else ((fX7_layMobius (s7_counted (s7_isLaid (s7_faceMany (s7_placeOf (s7_rankOf (s7_faces (s7_closed (s7_thrown o0 0) (q7_closed r1.2)) (q7_faces r1.2)) (q7_rankOf r1.2)) (q7_placeOf r1.2)) (q7_faceMany r1.2)) (q7_isLaid r1.2)) v4.2) v4.1).bind fun r7 =>
  (lp (fX7_isEulerian_L31 o0 r1 v4 r7) lpN 0))
def fX7_isEulerian (o0 : OX7) : Option (Int32 × OX7) :=
  (fX7_isGradedNow (s7_thrown o0 0)).bind fun r1 =>
  (if r1.1 = 0 then (some (0, (s7_isLaid (s7_faceMany (s7_placeOf (s7_rankOf (s7_faces (s7_closed (s7_thrown o0 0) (q7_closed r1.2)) (q7_faces r1.2)) (q7_rankOf r1.2)) (q7_placeOf r1.2)) (q7_faceMany r1.2)) (q7_isLaid r1.2))))
  else (lp (fX7_isEulerian_L16 o0 r1) lpN (0, (q7_counted o0))))
theorem myX7_isEulerian : MYv yX7_isEulerian cX7_isEulerian 3 (some .boolean) 0 := ⟨mw_7_58, mw_7_59, mw_7_60, mw_1_9, ⟨by decide +kernel, by decide +kernel⟩, by decide +kernel⟩
set_option maxRecDepth 100000 in
set_option maxHeartbeats 4000000 in
theorem kX7_isEulerian (l : Launch) (Z : GZ) (a0 a0_buffer a0_now a0_made a0_history a0_saved a0_closed a0_faces a0_rankOf a0_placeOf a0_counted a0_steps a0_onto a0_goes a0_firstImage : Nat) (o0 : OX7) (res : Int32 × OX7) (h : fX7_isEulerian o0 = some res) : MI l Z yX7_isEulerian cX7_isEulerian 3 .boolean 5 111 [.ref a0] [(a0, .inr (7, [.int (q7_thrown o0), .ref a0_buffer, .int (q7_length o0), .int (q7_at o0), .int (q7_from o0), .int (q7_kind o0), .int (q7_number o0), .int (q7_wrong o0), .ref a0_now, .ref a0_made, .ref a0_history, .ref a0_saved, .int (q7_entries o0), .int (q7_isSaved o0), .ref a0_closed, .ref a0_faces, .ref a0_rankOf, .ref a0_placeOf, .int (q7_faceMany o0), .int (q7_isLaid o0), .ref a0_counted, .ref a0_steps, .ref a0_onto, .ref a0_goes, .int (q7_found o0), .int (q7_images o0), .ref a0_firstImage, .int (q7_gathered o0)])), (a0_now, .inl (zI Z, 12, .inl (q7_now o0))), (a0_closed, .inl (zI Z, 256, .inl (q7_closed o0))), (a0_faces, .inl (zI Z, 256, .inl (q7_faces o0))), (a0_rankOf, .inl (zI Z, 256, .inl (q7_rankOf o0))), (a0_placeOf, .inl (zI Z, 256, .inl (q7_placeOf o0))), (a0_counted, .inl (zI Z, 256, .inl (q7_counted o0)))] res.1 [(a0, .inr (7, [.int (q7_thrown res.2), .ref a0_buffer, .int (q7_length o0), .int (q7_at o0), .int (q7_from o0), .int (q7_kind o0), .int (q7_number o0), .int (q7_wrong o0), .ref a0_now, .ref a0_made, .ref a0_history, .ref a0_saved, .int (q7_entries o0), .int (q7_isSaved o0), .ref a0_closed, .ref a0_faces, .ref a0_rankOf, .ref a0_placeOf, .int (q7_faceMany res.2), .int (q7_isLaid res.2), .ref a0_counted, .ref a0_steps, .ref a0_onto, .ref a0_goes, .int (q7_found o0), .int (q7_images o0), .ref a0_firstImage, .int (q7_gathered o0)])), (a0_now, .inl (zI Z, 12, .inl (q7_now o0))), (a0_closed, .inl (zI Z, 256, .inl (q7_closed res.2))), (a0_faces, .inl (zI Z, 256, .inl (q7_faces res.2))), (a0_rankOf, .inl (zI Z, 256, .inl (q7_rankOf res.2))), (a0_placeOf, .inl (zI Z, 256, .inl (q7_placeOf res.2))), (a0_counted, .inl (zI Z, 256, .inl (q7_counted res.2)))] := by
  refine MI_of (by decide +kernel) (Nat.le_of_ble_eq_true rfl) (fun {p e s m args below meth c} A R hR Q hQ C hr hlk => ?_)
  unfold fX7_isEulerian at h
  refine g_lv [0] [(0, .ref a0)] rfl ?_
  refine g_aload_n C dX7_isEulerian_0 rfl 0 rfl ?_
  refine g_iconst C 0 dX7_isEulerian_1 (by decide) ?_
  refine g_put C 7 52 gin7 tyX7 tyX7_ok nmX7 0 rfl rfl 0 (by decide) mw_5_85 rfl rfl (ty := .int) (by decide +kernel) rfl rfl (Nat.le_of_ble_eq_true rfl) [(a0, .inr (7, [.int 0, .ref a0_buffer, .int (q7_length o0), .int (q7_at o0), .int (q7_from o0), .int (q7_kind o0), .int (q7_number o0), .int (q7_wrong o0), .ref a0_now, .ref a0_made, .ref a0_history, .ref a0_saved, .int (q7_entries o0), .int (q7_isSaved o0), .ref a0_closed, .ref a0_faces, .ref a0_rankOf, .ref a0_placeOf, .int (q7_faceMany o0), .int (q7_isLaid o0), .ref a0_counted, .ref a0_steps, .ref a0_onto, .ref a0_goes, .int (q7_found o0), .int (q7_images o0), .ref a0_firstImage, .int (q7_gathered o0)])), (a0_now, .inl (zI Z, 12, .inl (q7_now o0))), (a0_closed, .inl (zI Z, 256, .inl (q7_closed o0))), (a0_faces, .inl (zI Z, 256, .inl (q7_faces o0))), (a0_rankOf, .inl (zI Z, 256, .inl (q7_rankOf o0))), (a0_placeOf, .inl (zI Z, 256, .inl (q7_placeOf o0))), (a0_counted, .inl (zI Z, 256, .inl (q7_counted o0)))] rfl dX7_isEulerian_2 ?_
  refine g_aload_n C dX7_isEulerian_5 rfl 0 rfl ?_
  obtain ⟨r1, hr2, h⟩ := bd_of h
  refine g_callVi C (kX7_isGradedNow l Z a0 a0_buffer a0_now a0_made a0_history a0_saved a0_closed a0_faces a0_rankOf a0_placeOf a0_counted a0_steps a0_onto a0_goes a0_firstImage (s7_thrown o0 0) r1 hr2) 0 rfl (ci := 7) rfl rfl myX7_isGradedNow 284 mw_7_49 rfl [0, 1, 2, 3, 4, 5] [6] [1, 2, 3, 4, 5, 6, 0] (wr := [(a0_counted, .inl (zI Z, 256, .inl (q7_counted o0)))]) rfl rfl (by decide) (by decide) (by decide) [(a0, .inr (7, [.int 0, .ref a0_buffer, .int (q7_length o0), .int (q7_at o0), .int (q7_from o0), .int (q7_kind o0), .int (q7_number o0), .int (q7_wrong o0), .ref a0_now, .ref a0_made, .ref a0_history, .ref a0_saved, .int (q7_entries o0), .int (q7_isSaved o0), .ref a0_closed, .ref a0_faces, .ref a0_rankOf, .ref a0_placeOf, .int (q7_faceMany r1.2), .int (q7_isLaid r1.2), .ref a0_counted, .ref a0_steps, .ref a0_onto, .ref a0_goes, .int (q7_found o0), .int (q7_images o0), .ref a0_firstImage, .int (q7_gathered o0)])), (a0_now, .inl (zI Z, 12, .inl (q7_now o0))), (a0_closed, .inl (zI Z, 256, .inl (q7_closed r1.2))), (a0_faces, .inl (zI Z, 256, .inl (q7_faces r1.2))), (a0_rankOf, .inl (zI Z, 256, .inl (q7_rankOf r1.2))), (a0_placeOf, .inl (zI Z, 256, .inl (q7_placeOf r1.2))), (a0_counted, .inl (zI Z, 256, .inl (q7_counted o0)))] rfl (by decide) (Nat.le_of_ble_eq_true rfl) (by rw [hR]; exact Nat.le_of_ble_eq_true rfl) (by rw [hR]; exact Nat.le_of_ble_eq_true rfl) ⟨by rw [hR]; exact Nat.le_of_ble_eq_true rfl, by rw [hR]; exact Nat.le_of_ble_eq_true rfl⟩ rfl dX7_isEulerian_6 ?_
  refine g_if_ne C 14 dX7_isEulerian_9 (by decide) (fun c3 => ?_) (fun c3 => ?_)
  · replace h := it_f c3 h
    refine g_iconst C 0 dX7_isEulerian_14 (by decide) ?_
    refine g_istore_n C dX7_isEulerian_15 rfl (by decide) [(1, .int 0), (0, .ref a0)] rfl ?_
    refine g_lv [1, 0] [(0, .ref a0), (1, .int 0)] rfl ?_
    refine g_loop (lvf := fun v4 => [(0, .ref a0), (1, .int v4.1)]) (wsf := fun v4 => [(a0, .inr (7, [.int 0, .ref a0_buffer, .int (q7_length o0), .int (q7_at o0), .int (q7_from o0), .int (q7_kind o0), .int (q7_number o0), .int (q7_wrong o0), .ref a0_now, .ref a0_made, .ref a0_history, .ref a0_saved, .int (q7_entries o0), .int (q7_isSaved o0), .ref a0_closed, .ref a0_faces, .ref a0_rankOf, .ref a0_placeOf, .int (q7_faceMany r1.2), .int (q7_isLaid r1.2), .ref a0_counted, .ref a0_steps, .ref a0_onto, .ref a0_goes, .int (q7_found o0), .int (q7_images o0), .ref a0_firstImage, .int (q7_gathered o0)])), (a0_now, .inl (zI Z, 12, .inl (q7_now o0))), (a0_closed, .inl (zI Z, 256, .inl (q7_closed r1.2))), (a0_faces, .inl (zI Z, 256, .inl (q7_faces r1.2))), (a0_rankOf, .inl (zI Z, 256, .inl (q7_rankOf r1.2))), (a0_placeOf, .inl (zI Z, 256, .inl (q7_placeOf r1.2))), (a0_counted, .inl (zI Z, 256, .inl v4.2))]) h (fun v4 y1 h hk1 hx1 => ?_)
    refine g_eq (lv1 := [(0, .ref a0), (1, .int v4.1)]) (st1 := []) (ws1 := [(a0, .inr (7, [.int 0, .ref a0_buffer, .int (q7_length o0), .int (q7_at o0), .int (q7_from o0), .int (q7_kind o0), .int (q7_number o0), .int (q7_wrong o0), .ref a0_now, .ref a0_made, .ref a0_history, .ref a0_saved, .int (q7_entries o0), .int (q7_isSaved o0), .ref a0_closed, .ref a0_faces, .ref a0_rankOf, .ref a0_placeOf, .int (q7_faceMany r1.2), .int (q7_isLaid r1.2), .ref a0_counted, .ref a0_steps, .ref a0_onto, .ref a0_goes, .int (q7_found o0), .int (q7_images o0), .ref a0_firstImage, .int (q7_gathered o0)])), (a0_now, .inl (zI Z, 12, .inl (q7_now o0))), (a0_closed, .inl (zI Z, 256, .inl (q7_closed r1.2))), (a0_faces, .inl (zI Z, 256, .inl (q7_faces r1.2))), (a0_rankOf, .inl (zI Z, 256, .inl (q7_rankOf r1.2))), (a0_placeOf, .inl (zI Z, 256, .inl (q7_placeOf r1.2))), (a0_counted, .inl (zI Z, 256, .inl v4.2))]) rfl rfl rfl rfl ?_
    unfold fX7_isEulerian_L16 at h
    refine g_iload_n C dX7_isEulerian_16 rfl 1 rfl ?_
    refine g_aload_n C dX7_isEulerian_17 rfl 0 rfl ?_
    refine g_get C 7 214 gin7 0 rfl rfl 18 (by decide) mw_5_103 rfl rfl dX7_isEulerian_18 ?_
    refine g_icmp_ge C 92 dX7_isEulerian_21 (by decide) (fun c5 => ?_) (fun c5 => ?_)
    · replace h := it_t c5 h
      obtain ⟨r6, h, hy⟩ := ex_of h
      rw [hx1 r6 hy] at h
      refine g_iconst C 1 dX7_isEulerian_92 (by decide) ?_
      obtain rfl := Option.some.inj h
      subst hQ
      exact g_zret C rfl (Or.inr rfl) hr hlk dX7_isEulerian_93 [0, 1, 2, 3, 4, 5, 6] rfl (by decide)
    · replace h := it_f c5 h
      refine g_aload_n C dX7_isEulerian_24 rfl 0 rfl ?_
      refine g_iload_n C dX7_isEulerian_25 rfl 1 rfl ?_
      obtain ⟨r7, hr8, h⟩ := bd_of h
      refine g_callVv C (kX7_layMobius l Z a0 a0_buffer a0_now a0_made a0_history a0_saved a0_closed a0_faces a0_rankOf a0_placeOf a0_counted a0_steps a0_onto a0_goes a0_firstImage (s7_counted (s7_isLaid (s7_faceMany (s7_placeOf (s7_rankOf (s7_faces (s7_closed (s7_thrown o0 0) (q7_closed r1.2)) (q7_faces r1.2)) (q7_rankOf r1.2)) (q7_placeOf r1.2)) (q7_faceMany r1.2)) (q7_isLaid r1.2)) v4.2) v4.1 r7 hr8) 0 rfl (ci := 7) rfl rfl myX7_layMobius 281 mw_7_41 rfl [0, 3, 6] [1, 2, 4, 5] [4, 0, 1, 5, 2, 3, 6] (wr := [(a0_now, .inl (zI Z, 12, .inl (q7_now o0))), (a0_closed, .inl (zI Z, 256, .inl (q7_closed r1.2))), (a0_rankOf, .inl (zI Z, 256, .inl (q7_rankOf r1.2))), (a0_placeOf, .inl (zI Z, 256, .inl (q7_placeOf r1.2)))]) rfl rfl (by decide) (by decide) (by decide) [(a0, .inr (7, [.int 0, .ref a0_buffer, .int (q7_length o0), .int (q7_at o0), .int (q7_from o0), .int (q7_kind o0), .int (q7_number o0), .int (q7_wrong o0), .ref a0_now, .ref a0_made, .ref a0_history, .ref a0_saved, .int (q7_entries o0), .int (q7_isSaved o0), .ref a0_closed, .ref a0_faces, .ref a0_rankOf, .ref a0_placeOf, .int (q7_faceMany r1.2), .int (q7_isLaid r1.2), .ref a0_counted, .ref a0_steps, .ref a0_onto, .ref a0_goes, .int (q7_found o0), .int (q7_images o0), .ref a0_firstImage, .int (q7_gathered o0)])), (a0_now, .inl (zI Z, 12, .inl (q7_now o0))), (a0_closed, .inl (zI Z, 256, .inl (q7_closed r1.2))), (a0_faces, .inl (zI Z, 256, .inl (q7_faces r1.2))), (a0_rankOf, .inl (zI Z, 256, .inl (q7_rankOf r1.2))), (a0_placeOf, .inl (zI Z, 256, .inl (q7_placeOf r1.2))), (a0_counted, .inl (zI Z, 256, .inl (q7_counted r7)))] rfl (by decide) (Nat.le_of_ble_eq_true rfl) (by rw [hR]; exact Nat.le_of_ble_eq_true rfl) (by rw [hR]; exact Nat.le_of_ble_eq_true rfl) ⟨by rw [hR]; exact Nat.le_of_ble_eq_true rfl, by rw [hR]; exact Nat.le_of_ble_eq_true rfl⟩ rfl dX7_isEulerian_26 ?_
      refine g_iconst C 0 dX7_isEulerian_29 (by decide) ?_
      refine g_istore_n C dX7_isEulerian_30 rfl (by decide) [(2, .int 0), (0, .ref a0), (1, .int v4.1)] rfl ?_
      refine g_lv [1, 2, 0] [(0, .ref a0), (1, .int v4.1), (2, .int 0)] rfl ?_
      refine g_loop (lvf := fun v9 => [(0, .ref a0), (1, .int v4.1), (2, .int v9)]) (wsf := fun v9 => [(a0, .inr (7, [.int 0, .ref a0_buffer, .int (q7_length o0), .int (q7_at o0), .int (q7_from o0), .int (q7_kind o0), .int (q7_number o0), .int (q7_wrong o0), .ref a0_now, .ref a0_made, .ref a0_history, .ref a0_saved, .int (q7_entries o0), .int (q7_isSaved o0), .ref a0_closed, .ref a0_faces, .ref a0_rankOf, .ref a0_placeOf, .int (q7_faceMany r1.2), .int (q7_isLaid r1.2), .ref a0_counted, .ref a0_steps, .ref a0_onto, .ref a0_goes, .int (q7_found o0), .int (q7_images o0), .ref a0_firstImage, .int (q7_gathered o0)])), (a0_now, .inl (zI Z, 12, .inl (q7_now o0))), (a0_closed, .inl (zI Z, 256, .inl (q7_closed r1.2))), (a0_faces, .inl (zI Z, 256, .inl (q7_faces r1.2))), (a0_rankOf, .inl (zI Z, 256, .inl (q7_rankOf r1.2))), (a0_placeOf, .inl (zI Z, 256, .inl (q7_placeOf r1.2))), (a0_counted, .inl (zI Z, 256, .inl (q7_counted r7)))]) h (fun v9 y2 h hk2 hx2 => ?_)
      refine g_eq (lv1 := [(0, .ref a0), (1, .int v4.1), (2, .int v9)]) (st1 := []) (ws1 := [(a0, .inr (7, [.int 0, .ref a0_buffer, .int (q7_length o0), .int (q7_at o0), .int (q7_from o0), .int (q7_kind o0), .int (q7_number o0), .int (q7_wrong o0), .ref a0_now, .ref a0_made, .ref a0_history, .ref a0_saved, .int (q7_entries o0), .int (q7_isSaved o0), .ref a0_closed, .ref a0_faces, .ref a0_rankOf, .ref a0_placeOf, .int (q7_faceMany r1.2), .int (q7_isLaid r1.2), .ref a0_counted, .ref a0_steps, .ref a0_onto, .ref a0_goes, .int (q7_found o0), .int (q7_images o0), .ref a0_firstImage, .int (q7_gathered o0)])), (a0_now, .inl (zI Z, 12, .inl (q7_now o0))), (a0_closed, .inl (zI Z, 256, .inl (q7_closed r1.2))), (a0_faces, .inl (zI Z, 256, .inl (q7_faces r1.2))), (a0_rankOf, .inl (zI Z, 256, .inl (q7_rankOf r1.2))), (a0_placeOf, .inl (zI Z, 256, .inl (q7_placeOf r1.2))), (a0_counted, .inl (zI Z, 256, .inl (q7_counted r7)))]) rfl rfl rfl rfl ?_
      unfold fX7_isEulerian_L31 at h
      refine g_iload_n C dX7_isEulerian_31 rfl 2 rfl ?_
      refine g_aload_n C dX7_isEulerian_32 rfl 0 rfl ?_
      refine g_get C 7 214 gin7 0 rfl rfl 18 (by decide) mw_5_103 rfl rfl dX7_isEulerian_33 ?_
      refine g_icmp_ge C 86 dX7_isEulerian_36 (by decide) (fun c10 => ?_) (fun c10 => ?_)
      · replace h := it_t c10 h
        obtain ⟨r11, h, hy⟩ := ex_of h
        rw [hx2 r11 hy] at h
        refine g_iinc C (v4.1 + 1) dX7_isEulerian_86 1 rfl rfl (by decide) [(1, .int (v4.1 + 1)), (0, .ref a0), (2, .int v9)] rfl ?_
        refine g_goto C 16 dX7_isEulerian_89 (by decide) ?_
        refine g_lv [1, 0] [(0, .ref a0), (1, .int (v4.1 + 1))] rfl ?_
        exact hk1 ((v4.1 + 1), (q7_counted r7)) (Option.some.inj h).symm
      · replace h := it_f c10 h
        refine g_aload_n C dX7_isEulerian_39 rfl 0 rfl ?_
        refine g_iload_n C dX7_isEulerian_40 rfl 1 rfl ?_
        refine g_iload_n C dX7_isEulerian_41 rfl 2 rfl ?_
        obtain ⟨r12, hr13, h⟩ := bd_of h
        refine g_callVi C (kX7_isIn l Z a0 a0_buffer a0_now a0_made a0_history a0_saved a0_closed a0_faces a0_rankOf a0_placeOf a0_counted a0_steps a0_onto a0_goes a0_firstImage (s7_counted (s7_isLaid (s7_faceMany (s7_placeOf (s7_rankOf (s7_faces (s7_closed (s7_thrown o0 0) (q7_closed r1.2)) (q7_faces r1.2)) (q7_rankOf r1.2)) (q7_placeOf r1.2)) (q7_faceMany r1.2)) (q7_isLaid r1.2)) (q7_counted r7)) v4.1 v9 r12 hr13) 0 rfl (ci := 7) rfl rfl myX7_isIn 272 mw_7_25 rfl [0, 3] [1, 2, 4, 5, 6] [5, 0, 1, 6, 2, 3, 4] (wr := [(a0_now, .inl (zI Z, 12, .inl (q7_now o0))), (a0_closed, .inl (zI Z, 256, .inl (q7_closed r1.2))), (a0_rankOf, .inl (zI Z, 256, .inl (q7_rankOf r1.2))), (a0_placeOf, .inl (zI Z, 256, .inl (q7_placeOf r1.2))), (a0_counted, .inl (zI Z, 256, .inl (q7_counted r7)))]) rfl rfl (by decide) (by decide) (by decide) [(a0, .inr (7, [.int 0, .ref a0_buffer, .int (q7_length o0), .int (q7_at o0), .int (q7_from o0), .int (q7_kind o0), .int (q7_number o0), .int (q7_wrong o0), .ref a0_now, .ref a0_made, .ref a0_history, .ref a0_saved, .int (q7_entries o0), .int (q7_isSaved o0), .ref a0_closed, .ref a0_faces, .ref a0_rankOf, .ref a0_placeOf, .int (q7_faceMany r1.2), .int (q7_isLaid r1.2), .ref a0_counted, .ref a0_steps, .ref a0_onto, .ref a0_goes, .int (q7_found o0), .int (q7_images o0), .ref a0_firstImage, .int (q7_gathered o0)])), (a0_now, .inl (zI Z, 12, .inl (q7_now o0))), (a0_closed, .inl (zI Z, 256, .inl (q7_closed r1.2))), (a0_faces, .inl (zI Z, 256, .inl (q7_faces r1.2))), (a0_rankOf, .inl (zI Z, 256, .inl (q7_rankOf r1.2))), (a0_placeOf, .inl (zI Z, 256, .inl (q7_placeOf r1.2))), (a0_counted, .inl (zI Z, 256, .inl (q7_counted r7)))] rfl (by decide) (Nat.le_of_ble_eq_true rfl) (by rw [hR]; exact Nat.le_of_ble_eq_true rfl) (by rw [hR]; exact Nat.le_of_ble_eq_true rfl) ⟨by rw [hR]; exact Nat.le_of_ble_eq_true rfl, by rw [hR]; exact Nat.le_of_ble_eq_true rfl⟩ rfl dX7_isEulerian_42 ?_
        refine g_if_eq C 80 dX7_isEulerian_45 (by decide) (fun c14 => ?_) (fun c14 => ?_)
        · replace h := it_t c14 h
          refine g_iinc C (v9 + 1) dX7_isEulerian_80 2 rfl rfl (by decide) [(2, .int (v9 + 1)), (0, .ref a0), (1, .int v4.1)] rfl ?_
          refine g_goto C 31 dX7_isEulerian_83 (by decide) ?_
          refine g_lv [1, 2, 0] [(0, .ref a0), (1, .int v4.1), (2, .int (v9 + 1))] rfl ?_
          exact hk2 (v9 + 1) (Option.some.inj h).symm
        · replace h := it_f c14 h
          refine g_aload_n C dX7_isEulerian_48 rfl 0 rfl ?_
          refine g_get C 7 37 gin7 0 rfl rfl 20 (by decide) mw_5_105 rfl rfl dX7_isEulerian_49 ?_
          refine g_iload_n C dX7_isEulerian_52 rfl 2 rfl ?_
          obtain ⟨hi15, h⟩ := ck_of h
          refine g_iald C 6 rfl hi15 dX7_isEulerian_53 ?_
          refine g_aload_n C dX7_isEulerian_54 rfl 0 rfl ?_
          refine g_iload_n C dX7_isEulerian_55 rfl 2 rfl ?_
          obtain ⟨r16, hr17, h⟩ := bd_of h
          refine g_callVi C (kX7_rankAt l Z a0 a0_buffer a0_now a0_made a0_history a0_saved a0_closed a0_faces a0_rankOf a0_placeOf a0_counted a0_steps a0_onto a0_goes a0_firstImage (s7_counted (s7_isLaid (s7_faceMany (s7_placeOf (s7_rankOf (s7_faces (s7_closed (s7_thrown o0 0) (q7_closed r1.2)) (q7_faces r1.2)) (q7_rankOf r1.2)) (q7_placeOf r1.2)) (q7_faceMany r1.2)) (q7_isLaid r1.2)) (q7_counted r7)) v9 r16 hr17) 0 rfl (ci := 7) rfl rfl myX7_rankAt 263 mw_6_221 rfl [0, 3, 4] [1, 2, 5, 6] [4, 0, 1, 5, 6, 2, 3] (wr := [(a0_now, .inl (zI Z, 12, .inl (q7_now o0))), (a0_closed, .inl (zI Z, 256, .inl (q7_closed r1.2))), (a0_placeOf, .inl (zI Z, 256, .inl (q7_placeOf r1.2))), (a0_counted, .inl (zI Z, 256, .inl (q7_counted r7)))]) rfl rfl (by decide) (by decide) (by decide) [(a0, .inr (7, [.int 0, .ref a0_buffer, .int (q7_length o0), .int (q7_at o0), .int (q7_from o0), .int (q7_kind o0), .int (q7_number o0), .int (q7_wrong o0), .ref a0_now, .ref a0_made, .ref a0_history, .ref a0_saved, .int (q7_entries o0), .int (q7_isSaved o0), .ref a0_closed, .ref a0_faces, .ref a0_rankOf, .ref a0_placeOf, .int (q7_faceMany r1.2), .int (q7_isLaid r1.2), .ref a0_counted, .ref a0_steps, .ref a0_onto, .ref a0_goes, .int (q7_found o0), .int (q7_images o0), .ref a0_firstImage, .int (q7_gathered o0)])), (a0_now, .inl (zI Z, 12, .inl (q7_now o0))), (a0_closed, .inl (zI Z, 256, .inl (q7_closed r1.2))), (a0_faces, .inl (zI Z, 256, .inl (q7_faces r1.2))), (a0_rankOf, .inl (zI Z, 256, .inl (q7_rankOf r1.2))), (a0_placeOf, .inl (zI Z, 256, .inl (q7_placeOf r1.2))), (a0_counted, .inl (zI Z, 256, .inl (q7_counted r7)))] rfl (by decide) (Nat.le_of_ble_eq_true rfl) (by rw [hR]; exact Nat.le_of_ble_eq_true rfl) (by rw [hR]; exact Nat.le_of_ble_eq_true rfl) ⟨by rw [hR]; exact Nat.le_of_ble_eq_true rfl, by rw [hR]; exact Nat.le_of_ble_eq_true rfl⟩ rfl dX7_isEulerian_56 ?_
          refine g_aload_n C dX7_isEulerian_59 rfl 0 rfl ?_
          refine g_iload_n C dX7_isEulerian_60 rfl 1 rfl ?_
          obtain ⟨r18, hr19, h⟩ := bd_of h
          refine g_callVi C (kX7_rankAt l Z a0 a0_buffer a0_now a0_made a0_history a0_saved a0_closed a0_faces a0_rankOf a0_placeOf a0_counted a0_steps a0_onto a0_goes a0_firstImage (s7_counted (s7_isLaid (s7_faceMany (s7_placeOf (s7_rankOf (s7_faces (s7_closed (s7_thrown o0 0) (q7_closed r1.2)) (q7_faces r1.2)) (q7_rankOf r1.2)) (q7_placeOf r1.2)) (q7_faceMany r1.2)) (q7_isLaid r1.2)) (q7_counted r7)) v4.1 r18 hr19) 0 rfl (ci := 7) rfl rfl myX7_rankAt 263 mw_6_221 rfl [0, 3, 4] [1, 2, 5, 6] [4, 0, 1, 5, 6, 2, 3] (wr := [(a0_now, .inl (zI Z, 12, .inl (q7_now o0))), (a0_closed, .inl (zI Z, 256, .inl (q7_closed r1.2))), (a0_placeOf, .inl (zI Z, 256, .inl (q7_placeOf r1.2))), (a0_counted, .inl (zI Z, 256, .inl (q7_counted r7)))]) rfl rfl (by decide) (by decide) (by decide) [(a0, .inr (7, [.int 0, .ref a0_buffer, .int (q7_length o0), .int (q7_at o0), .int (q7_from o0), .int (q7_kind o0), .int (q7_number o0), .int (q7_wrong o0), .ref a0_now, .ref a0_made, .ref a0_history, .ref a0_saved, .int (q7_entries o0), .int (q7_isSaved o0), .ref a0_closed, .ref a0_faces, .ref a0_rankOf, .ref a0_placeOf, .int (q7_faceMany r1.2), .int (q7_isLaid r1.2), .ref a0_counted, .ref a0_steps, .ref a0_onto, .ref a0_goes, .int (q7_found o0), .int (q7_images o0), .ref a0_firstImage, .int (q7_gathered o0)])), (a0_now, .inl (zI Z, 12, .inl (q7_now o0))), (a0_closed, .inl (zI Z, 256, .inl (q7_closed r1.2))), (a0_faces, .inl (zI Z, 256, .inl (q7_faces r1.2))), (a0_rankOf, .inl (zI Z, 256, .inl (q7_rankOf r1.2))), (a0_placeOf, .inl (zI Z, 256, .inl (q7_placeOf r1.2))), (a0_counted, .inl (zI Z, 256, .inl (q7_counted r7)))] rfl (by decide) (Nat.le_of_ble_eq_true rfl) (by rw [hR]; exact Nat.le_of_ble_eq_true rfl) (by rw [hR]; exact Nat.le_of_ble_eq_true rfl) ⟨by rw [hR]; exact Nat.le_of_ble_eq_true rfl, by rw [hR]; exact Nat.le_of_ble_eq_true rfl⟩ rfl dX7_isEulerian_61 ?_
          refine g_isub C dX7_isEulerian_64 ?_
          refine g_iconst C 2 dX7_isEulerian_65 (by decide) ?_
          refine g_irem C dX7_isEulerian_66 (by decide) ?_
          refine g_if_ne C 74 dX7_isEulerian_67 (by decide) (fun c20 => ?_) (fun c20 => ?_)
          · replace h := it_f c20 h
            refine g_iconst C (-1) dX7_isEulerian_74 (by decide) ?_
            refine g_icmp_eq C 80 dX7_isEulerian_75 (by decide) (fun c21 => ?_) (fun c21 => ?_)
            · replace h := it_t c21 h
              refine g_iinc C (v9 + 1) dX7_isEulerian_80 2 rfl rfl (by decide) [(2, .int (v9 + 1)), (0, .ref a0), (1, .int v4.1)] rfl ?_
              refine g_goto C 31 dX7_isEulerian_83 (by decide) ?_
              refine g_lv [1, 2, 0] [(0, .ref a0), (1, .int v4.1), (2, .int (v9 + 1))] rfl ?_
              exact hk2 (v9 + 1) (Option.some.inj h).symm
            · replace h := it_f c21 h
              obtain ⟨r22, h, hy⟩ := ex_of h
              rw [hx2 r22 hy] at h
              obtain ⟨r23, h, hy⟩ := ex_of h
              rw [hx1 r23 hy] at h
              refine g_iconst C 0 dX7_isEulerian_78 (by decide) ?_
              obtain rfl := Option.some.inj h
              subst hQ
              exact g_zret C rfl (Or.inl rfl) hr hlk dX7_isEulerian_79 [0, 1, 2, 3, 4, 5, 6] rfl (by decide)
          · replace h := it_t c20 h
            refine g_iconst C 1 dX7_isEulerian_70 (by decide) ?_
            refine g_goto C 75 dX7_isEulerian_71 (by decide) ?_
            refine g_icmp_eq C 80 dX7_isEulerian_75 (by decide) (fun c24 => ?_) (fun c24 => ?_)
            · replace h := it_t c24 h
              refine g_iinc C (v9 + 1) dX7_isEulerian_80 2 rfl rfl (by decide) [(2, .int (v9 + 1)), (0, .ref a0), (1, .int v4.1)] rfl ?_
              refine g_goto C 31 dX7_isEulerian_83 (by decide) ?_
              refine g_lv [1, 2, 0] [(0, .ref a0), (1, .int v4.1), (2, .int (v9 + 1))] rfl ?_
              exact hk2 (v9 + 1) (Option.some.inj h).symm
            · replace h := it_f c24 h
              obtain ⟨r25, h, hy⟩ := ex_of h
              rw [hx2 r25 hy] at h
              obtain ⟨r26, h, hy⟩ := ex_of h
              rw [hx1 r26 hy] at h
              refine g_iconst C 0 dX7_isEulerian_78 (by decide) ?_
              obtain rfl := Option.some.inj h
              subst hQ
              exact g_zret C rfl (Or.inl rfl) hr hlk dX7_isEulerian_79 [0, 1, 2, 3, 4, 5, 6] rfl (by decide)
  · replace h := it_t c3 h
    refine g_iconst C 0 dX7_isEulerian_12 (by decide) ?_
    obtain rfl := Option.some.inj h
    subst hQ
    exact g_zret C rfl (Or.inl rfl) hr hlk dX7_isEulerian_13 [0, 1, 2, 3, 4, 5, 6] rfl (by decide)
def fX7_isSimplicial_L13 (o0 : OX7) (r1 : OX7) (v3 : Int32 × Int32) : Option ((Int32 × Int32) ⊕ (Int32 × OX7)) :=
  if ((q7_faceMany r1) - 1) ≤ v3.2 then (ex (ck (is01 v3.1) (some (v3.1, (s7_isLaid (s7_faceMany (s7_placeOf (s7_rankOf (s7_faces (s7_closed (s7_thrown o0 0) (q7_closed r1)) (q7_faces r1)) (q7_rankOf r1)) (q7_placeOf r1)) (q7_faceMany r1)) (q7_isLaid r1))))))
  else (if v3.1 = 0 then (some (.inl (0, (v3.2 + 1))))
  else ((fX7_betweenOf (s7_isLaid (s7_faceMany (s7_placeOf (s7_rankOf (s7_faces (s7_closed (s7_thrown o0 0) (q7_closed r1)) (q7_faces r1)) (q7_rankOf r1)) (q7_placeOf r1)) (q7_faceMany r1)) (q7_isLaid r1)) 0 v3.2).bind fun r7 =>
  ((fX7_rankAt (s7_isLaid (s7_faceMany (s7_placeOf (s7_rankOf (s7_faces (s7_closed (s7_thrown o0 0) (q7_closed r1)) (q7_faces r1)) (q7_rankOf r1)) (q7_placeOf r1)) (q7_faceMany r1)) (q7_isLaid r1)) v3.2).bind fun r9 =>
  (if r7 = (jshl 1 r9) then (some (.inl (1, (v3.2 + 1))))
  else (some (.inl (0, (v3.2 + 1))))))))
def fX7_isSimplicial (o0 : OX7) : Option (Int32 × OX7) :=
  (fX7_lay (s7_thrown o0 0)).bind fun r1 =>
  (lp (fX7_isSimplicial_L13 o0 r1) lpN (1, 0))
theorem myX7_isSimplicial : MYv yX7_isSimplicial cX7_isSimplicial 3 (some .boolean) 0 := ⟨mw_7_62, mw_7_63, mw_7_64, mw_1_9, ⟨by decide +kernel, by decide +kernel⟩, by decide +kernel⟩
set_option maxRecDepth 100000 in
set_option maxHeartbeats 4000000 in
theorem kX7_isSimplicial (l : Launch) (Z : GZ) (a0 a0_buffer a0_now a0_made a0_history a0_saved a0_closed a0_faces a0_rankOf a0_placeOf a0_counted a0_steps a0_onto a0_goes a0_firstImage : Nat) (o0 : OX7) (res : Int32 × OX7) (h : fX7_isSimplicial o0 = some res) : MI l Z yX7_isSimplicial cX7_isSimplicial 3 .boolean 4 89 [.ref a0] [(a0, .inr (7, [.int (q7_thrown o0), .ref a0_buffer, .int (q7_length o0), .int (q7_at o0), .int (q7_from o0), .int (q7_kind o0), .int (q7_number o0), .int (q7_wrong o0), .ref a0_now, .ref a0_made, .ref a0_history, .ref a0_saved, .int (q7_entries o0), .int (q7_isSaved o0), .ref a0_closed, .ref a0_faces, .ref a0_rankOf, .ref a0_placeOf, .int (q7_faceMany o0), .int (q7_isLaid o0), .ref a0_counted, .ref a0_steps, .ref a0_onto, .ref a0_goes, .int (q7_found o0), .int (q7_images o0), .ref a0_firstImage, .int (q7_gathered o0)])), (a0_now, .inl (zI Z, 12, .inl (q7_now o0))), (a0_closed, .inl (zI Z, 256, .inl (q7_closed o0))), (a0_faces, .inl (zI Z, 256, .inl (q7_faces o0))), (a0_rankOf, .inl (zI Z, 256, .inl (q7_rankOf o0))), (a0_placeOf, .inl (zI Z, 256, .inl (q7_placeOf o0)))] res.1 [(a0, .inr (7, [.int (q7_thrown res.2), .ref a0_buffer, .int (q7_length o0), .int (q7_at o0), .int (q7_from o0), .int (q7_kind o0), .int (q7_number o0), .int (q7_wrong o0), .ref a0_now, .ref a0_made, .ref a0_history, .ref a0_saved, .int (q7_entries o0), .int (q7_isSaved o0), .ref a0_closed, .ref a0_faces, .ref a0_rankOf, .ref a0_placeOf, .int (q7_faceMany res.2), .int (q7_isLaid res.2), .ref a0_counted, .ref a0_steps, .ref a0_onto, .ref a0_goes, .int (q7_found o0), .int (q7_images o0), .ref a0_firstImage, .int (q7_gathered o0)])), (a0_now, .inl (zI Z, 12, .inl (q7_now o0))), (a0_closed, .inl (zI Z, 256, .inl (q7_closed res.2))), (a0_faces, .inl (zI Z, 256, .inl (q7_faces res.2))), (a0_rankOf, .inl (zI Z, 256, .inl (q7_rankOf res.2))), (a0_placeOf, .inl (zI Z, 256, .inl (q7_placeOf res.2)))] := by
  refine MI_of (by decide +kernel) (Nat.le_of_ble_eq_true rfl) (fun {p e s m args below meth c} A R hR Q hQ C hr hlk => ?_)
  unfold fX7_isSimplicial at h
  refine g_lv [0] [(0, .ref a0)] rfl ?_
  refine g_aload_n C dX7_isSimplicial_0 rfl 0 rfl ?_
  refine g_iconst C 0 dX7_isSimplicial_1 (by decide) ?_
  refine g_put C 7 52 gin7 tyX7 tyX7_ok nmX7 0 rfl rfl 0 (by decide) mw_5_85 rfl rfl (ty := .int) (by decide +kernel) rfl rfl (Nat.le_of_ble_eq_true rfl) [(a0, .inr (7, [.int 0, .ref a0_buffer, .int (q7_length o0), .int (q7_at o0), .int (q7_from o0), .int (q7_kind o0), .int (q7_number o0), .int (q7_wrong o0), .ref a0_now, .ref a0_made, .ref a0_history, .ref a0_saved, .int (q7_entries o0), .int (q7_isSaved o0), .ref a0_closed, .ref a0_faces, .ref a0_rankOf, .ref a0_placeOf, .int (q7_faceMany o0), .int (q7_isLaid o0), .ref a0_counted, .ref a0_steps, .ref a0_onto, .ref a0_goes, .int (q7_found o0), .int (q7_images o0), .ref a0_firstImage, .int (q7_gathered o0)])), (a0_now, .inl (zI Z, 12, .inl (q7_now o0))), (a0_closed, .inl (zI Z, 256, .inl (q7_closed o0))), (a0_faces, .inl (zI Z, 256, .inl (q7_faces o0))), (a0_rankOf, .inl (zI Z, 256, .inl (q7_rankOf o0))), (a0_placeOf, .inl (zI Z, 256, .inl (q7_placeOf o0)))] rfl dX7_isSimplicial_2 ?_
  refine g_aload_n C dX7_isSimplicial_5 rfl 0 rfl ?_
  obtain ⟨r1, hr2, h⟩ := bd_of h
  refine g_callVv C (kX7_lay l Z a0 a0_buffer a0_now a0_made a0_history a0_saved a0_closed a0_faces a0_rankOf a0_placeOf a0_counted a0_steps a0_onto a0_goes a0_firstImage (s7_thrown o0 0) r1 hr2) 0 rfl (ci := 7) rfl rfl myX7_lay 217 mw_6_120 rfl [0, 1, 2, 3, 4, 5] [] [0, 1, 2, 3, 4, 5] (wr := []) rfl rfl (by decide) (by decide) (by decide) [(a0, .inr (7, [.int 0, .ref a0_buffer, .int (q7_length o0), .int (q7_at o0), .int (q7_from o0), .int (q7_kind o0), .int (q7_number o0), .int (q7_wrong o0), .ref a0_now, .ref a0_made, .ref a0_history, .ref a0_saved, .int (q7_entries o0), .int (q7_isSaved o0), .ref a0_closed, .ref a0_faces, .ref a0_rankOf, .ref a0_placeOf, .int (q7_faceMany r1), .int (q7_isLaid r1), .ref a0_counted, .ref a0_steps, .ref a0_onto, .ref a0_goes, .int (q7_found o0), .int (q7_images o0), .ref a0_firstImage, .int (q7_gathered o0)])), (a0_now, .inl (zI Z, 12, .inl (q7_now o0))), (a0_closed, .inl (zI Z, 256, .inl (q7_closed r1))), (a0_faces, .inl (zI Z, 256, .inl (q7_faces r1))), (a0_rankOf, .inl (zI Z, 256, .inl (q7_rankOf r1))), (a0_placeOf, .inl (zI Z, 256, .inl (q7_placeOf r1)))] rfl (by decide) (Nat.le_of_ble_eq_true rfl) (by rw [hR]; exact Nat.le_of_ble_eq_true rfl) (by rw [hR]; exact Nat.le_of_ble_eq_true rfl) ⟨by rw [hR]; exact Nat.le_of_ble_eq_true rfl, by rw [hR]; exact Nat.le_of_ble_eq_true rfl⟩ rfl dX7_isSimplicial_6 ?_
  refine g_iconst C 1 dX7_isSimplicial_9 (by decide) ?_
  refine g_istore_n C dX7_isSimplicial_10 rfl (by decide) [(1, .int 1), (0, .ref a0)] rfl ?_
  refine g_iconst C 0 dX7_isSimplicial_11 (by decide) ?_
  refine g_istore_n C dX7_isSimplicial_12 rfl (by decide) [(2, .int 0), (1, .int 1), (0, .ref a0)] rfl ?_
  refine g_lv [2, 1, 0] [(0, .ref a0), (1, .int 1), (2, .int 0)] rfl ?_
  refine g_loop (lvf := fun v3 => [(0, .ref a0), (1, .int v3.1), (2, .int v3.2)]) (wsf := fun v3 => [(a0, .inr (7, [.int 0, .ref a0_buffer, .int (q7_length o0), .int (q7_at o0), .int (q7_from o0), .int (q7_kind o0), .int (q7_number o0), .int (q7_wrong o0), .ref a0_now, .ref a0_made, .ref a0_history, .ref a0_saved, .int (q7_entries o0), .int (q7_isSaved o0), .ref a0_closed, .ref a0_faces, .ref a0_rankOf, .ref a0_placeOf, .int (q7_faceMany r1), .int (q7_isLaid r1), .ref a0_counted, .ref a0_steps, .ref a0_onto, .ref a0_goes, .int (q7_found o0), .int (q7_images o0), .ref a0_firstImage, .int (q7_gathered o0)])), (a0_now, .inl (zI Z, 12, .inl (q7_now o0))), (a0_closed, .inl (zI Z, 256, .inl (q7_closed r1))), (a0_faces, .inl (zI Z, 256, .inl (q7_faces r1))), (a0_rankOf, .inl (zI Z, 256, .inl (q7_rankOf r1))), (a0_placeOf, .inl (zI Z, 256, .inl (q7_placeOf r1)))]) h (fun v3 y1 h hk1 hx1 => ?_)
  refine g_eq (lv1 := [(0, .ref a0), (1, .int v3.1), (2, .int v3.2)]) (st1 := []) (ws1 := [(a0, .inr (7, [.int 0, .ref a0_buffer, .int (q7_length o0), .int (q7_at o0), .int (q7_from o0), .int (q7_kind o0), .int (q7_number o0), .int (q7_wrong o0), .ref a0_now, .ref a0_made, .ref a0_history, .ref a0_saved, .int (q7_entries o0), .int (q7_isSaved o0), .ref a0_closed, .ref a0_faces, .ref a0_rankOf, .ref a0_placeOf, .int (q7_faceMany r1), .int (q7_isLaid r1), .ref a0_counted, .ref a0_steps, .ref a0_onto, .ref a0_goes, .int (q7_found o0), .int (q7_images o0), .ref a0_firstImage, .int (q7_gathered o0)])), (a0_now, .inl (zI Z, 12, .inl (q7_now o0))), (a0_closed, .inl (zI Z, 256, .inl (q7_closed r1))), (a0_faces, .inl (zI Z, 256, .inl (q7_faces r1))), (a0_rankOf, .inl (zI Z, 256, .inl (q7_rankOf r1))), (a0_placeOf, .inl (zI Z, 256, .inl (q7_placeOf r1)))]) rfl rfl rfl rfl ?_
  unfold fX7_isSimplicial_L13 at h
  refine g_iload_n C dX7_isSimplicial_13 rfl 2 rfl ?_
  refine g_aload_n C dX7_isSimplicial_14 rfl 0 rfl ?_
  refine g_get C 7 214 gin7 0 rfl rfl 18 (by decide) mw_5_103 rfl rfl dX7_isSimplicial_15 ?_
  refine g_iconst C 1 dX7_isSimplicial_18 (by decide) ?_
  refine g_isub C dX7_isSimplicial_19 ?_
  refine g_icmp_ge C 55 dX7_isSimplicial_20 (by decide) (fun c4 => ?_) (fun c4 => ?_)
  · replace h := it_t c4 h
    obtain ⟨r5, h, hy⟩ := ex_of h
    rw [hx1 r5 hy] at h
    refine g_iload_n C dX7_isSimplicial_55 rfl 1 rfl ?_
    obtain ⟨hb, h⟩ := ck_of h
    obtain rfl := Option.some.inj h
    subst hQ
    exact g_zret C rfl (is01_of hb) hr hlk dX7_isSimplicial_56 [0, 1, 2, 3, 4, 5] rfl (by decide)
  · replace h := it_f c4 h
    refine g_iload_n C dX7_isSimplicial_23 rfl 1 rfl ?_
    refine g_if_eq C 47 dX7_isSimplicial_24 (by decide) (fun c6 => ?_) (fun c6 => ?_)
    · replace h := it_t c6 h
      refine g_iconst C 0 dX7_isSimplicial_47 (by decide) ?_
      refine g_istore_n C dX7_isSimplicial_48 rfl (by decide) [(1, .int 0), (0, .ref a0), (2, .int v3.2)] rfl ?_
      refine g_iinc C (v3.2 + 1) dX7_isSimplicial_49 2 rfl rfl (by decide) [(2, .int (v3.2 + 1)), (1, .int 0), (0, .ref a0)] rfl ?_
      refine g_goto C 13 dX7_isSimplicial_52 (by decide) ?_
      refine g_lv [2, 1, 0] [(0, .ref a0), (1, .int 0), (2, .int (v3.2 + 1))] rfl ?_
      exact hk1 (0, (v3.2 + 1)) (Option.some.inj h).symm
    · replace h := it_f c6 h
      refine g_aload_n C dX7_isSimplicial_27 rfl 0 rfl ?_
      refine g_iconst C 0 dX7_isSimplicial_28 (by decide) ?_
      refine g_iload_n C dX7_isSimplicial_29 rfl 2 rfl ?_
      obtain ⟨r7, hr8, h⟩ := bd_of h
      refine g_callVi C (kX7_betweenOf l Z a0 a0_buffer a0_now a0_made a0_history a0_saved a0_closed a0_faces a0_rankOf a0_placeOf a0_counted a0_steps a0_onto a0_goes a0_firstImage (s7_isLaid (s7_faceMany (s7_placeOf (s7_rankOf (s7_faces (s7_closed (s7_thrown o0 0) (q7_closed r1)) (q7_faces r1)) (q7_rankOf r1)) (q7_placeOf r1)) (q7_faceMany r1)) (q7_isLaid r1)) 0 v3.2 r7 hr8) 0 rfl (ci := 7) rfl rfl myX7_betweenOf 275 mw_7_21 rfl [0, 3] [1, 2, 4, 5] [4, 0, 1, 5, 2, 3] (wr := [(a0_now, .inl (zI Z, 12, .inl (q7_now o0))), (a0_closed, .inl (zI Z, 256, .inl (q7_closed r1))), (a0_rankOf, .inl (zI Z, 256, .inl (q7_rankOf r1))), (a0_placeOf, .inl (zI Z, 256, .inl (q7_placeOf r1)))]) rfl rfl (by decide) (by decide) (by decide) [(a0, .inr (7, [.int 0, .ref a0_buffer, .int (q7_length o0), .int (q7_at o0), .int (q7_from o0), .int (q7_kind o0), .int (q7_number o0), .int (q7_wrong o0), .ref a0_now, .ref a0_made, .ref a0_history, .ref a0_saved, .int (q7_entries o0), .int (q7_isSaved o0), .ref a0_closed, .ref a0_faces, .ref a0_rankOf, .ref a0_placeOf, .int (q7_faceMany r1), .int (q7_isLaid r1), .ref a0_counted, .ref a0_steps, .ref a0_onto, .ref a0_goes, .int (q7_found o0), .int (q7_images o0), .ref a0_firstImage, .int (q7_gathered o0)])), (a0_now, .inl (zI Z, 12, .inl (q7_now o0))), (a0_closed, .inl (zI Z, 256, .inl (q7_closed r1))), (a0_faces, .inl (zI Z, 256, .inl (q7_faces r1))), (a0_rankOf, .inl (zI Z, 256, .inl (q7_rankOf r1))), (a0_placeOf, .inl (zI Z, 256, .inl (q7_placeOf r1)))] rfl (by decide) (Nat.le_of_ble_eq_true rfl) (by rw [hR]; exact Nat.le_of_ble_eq_true rfl) (by rw [hR]; exact Nat.le_of_ble_eq_true rfl) ⟨by rw [hR]; exact Nat.le_of_ble_eq_true rfl, by rw [hR]; exact Nat.le_of_ble_eq_true rfl⟩ rfl dX7_isSimplicial_30 ?_
      refine g_iconst C 1 dX7_isSimplicial_33 (by decide) ?_
      refine g_aload_n C dX7_isSimplicial_34 rfl 0 rfl ?_
      refine g_iload_n C dX7_isSimplicial_35 rfl 2 rfl ?_
      obtain ⟨r9, hr10, h⟩ := bd_of h
      refine g_callVi C (kX7_rankAt l Z a0 a0_buffer a0_now a0_made a0_history a0_saved a0_closed a0_faces a0_rankOf a0_placeOf a0_counted a0_steps a0_onto a0_goes a0_firstImage (s7_isLaid (s7_faceMany (s7_placeOf (s7_rankOf (s7_faces (s7_closed (s7_thrown o0 0) (q7_closed r1)) (q7_faces r1)) (q7_rankOf r1)) (q7_placeOf r1)) (q7_faceMany r1)) (q7_isLaid r1)) v3.2 r9 hr10) 0 rfl (ci := 7) rfl rfl myX7_rankAt 263 mw_6_221 rfl [0, 3, 4] [1, 2, 5] [3, 0, 1, 4, 5, 2] (wr := [(a0_now, .inl (zI Z, 12, .inl (q7_now o0))), (a0_closed, .inl (zI Z, 256, .inl (q7_closed r1))), (a0_placeOf, .inl (zI Z, 256, .inl (q7_placeOf r1)))]) rfl rfl (by decide) (by decide) (by decide) [(a0, .inr (7, [.int 0, .ref a0_buffer, .int (q7_length o0), .int (q7_at o0), .int (q7_from o0), .int (q7_kind o0), .int (q7_number o0), .int (q7_wrong o0), .ref a0_now, .ref a0_made, .ref a0_history, .ref a0_saved, .int (q7_entries o0), .int (q7_isSaved o0), .ref a0_closed, .ref a0_faces, .ref a0_rankOf, .ref a0_placeOf, .int (q7_faceMany r1), .int (q7_isLaid r1), .ref a0_counted, .ref a0_steps, .ref a0_onto, .ref a0_goes, .int (q7_found o0), .int (q7_images o0), .ref a0_firstImage, .int (q7_gathered o0)])), (a0_now, .inl (zI Z, 12, .inl (q7_now o0))), (a0_closed, .inl (zI Z, 256, .inl (q7_closed r1))), (a0_faces, .inl (zI Z, 256, .inl (q7_faces r1))), (a0_rankOf, .inl (zI Z, 256, .inl (q7_rankOf r1))), (a0_placeOf, .inl (zI Z, 256, .inl (q7_placeOf r1)))] rfl (by decide) (Nat.le_of_ble_eq_true rfl) (by rw [hR]; exact Nat.le_of_ble_eq_true rfl) (by rw [hR]; exact Nat.le_of_ble_eq_true rfl) ⟨by rw [hR]; exact Nat.le_of_ble_eq_true rfl, by rw [hR]; exact Nat.le_of_ble_eq_true rfl⟩ rfl dX7_isSimplicial_36 ?_
      refine g_ishl C dX7_isSimplicial_39 ?_
      refine g_icmp_ne C 47 dX7_isSimplicial_40 (by decide) (fun c11 => ?_) (fun c11 => ?_)
      · replace h := it_f c11 h
        refine g_iconst C 0 dX7_isSimplicial_47 (by decide) ?_
        refine g_istore_n C dX7_isSimplicial_48 rfl (by decide) [(1, .int 0), (0, .ref a0), (2, .int v3.2)] rfl ?_
        refine g_iinc C (v3.2 + 1) dX7_isSimplicial_49 2 rfl rfl (by decide) [(2, .int (v3.2 + 1)), (1, .int 0), (0, .ref a0)] rfl ?_
        refine g_goto C 13 dX7_isSimplicial_52 (by decide) ?_
        refine g_lv [2, 1, 0] [(0, .ref a0), (1, .int 0), (2, .int (v3.2 + 1))] rfl ?_
        exact hk1 (0, (v3.2 + 1)) (Option.some.inj h).symm
      · replace h := it_t c11 h
        refine g_iconst C 1 dX7_isSimplicial_43 (by decide) ?_
        refine g_goto C 48 dX7_isSimplicial_44 (by decide) ?_
        refine g_istore_n C dX7_isSimplicial_48 rfl (by decide) [(1, .int 1), (0, .ref a0), (2, .int v3.2)] rfl ?_
        refine g_iinc C (v3.2 + 1) dX7_isSimplicial_49 2 rfl rfl (by decide) [(2, .int (v3.2 + 1)), (1, .int 1), (0, .ref a0)] rfl ?_
        refine g_goto C 13 dX7_isSimplicial_52 (by decide) ?_
        refine g_lv [2, 1, 0] [(0, .ref a0), (1, .int 1), (2, .int (v3.2 + 1))] rfl ?_
        exact hk1 (1, (v3.2 + 1)) (Option.some.inj h).symm
def fX7_isSimple_L13 (o0 : OX7) (v3 : Int32 × Int32 × Int32 × Int32 × (Nat → Int32) × (Nat → Int32) × (Nat → Int32) × (Nat → Int32)) : Option ((Int32 × Int32 × Int32 × Int32 × (Nat → Int32) × (Nat → Int32) × (Nat → Int32) × (Nat → Int32)) ⊕ (Int32 × OX7)) :=
  if v3.2.2.1 ≤ v3.2.1 then (ex (ck (is01 v3.1) (some (v3.1, (s7_isLaid (s7_faceMany (s7_placeOf (s7_rankOf (s7_faces (s7_closed (s7_thrown o0 0) v3.2.2.2.2.1) v3.2.2.2.2.2.1) v3.2.2.2.2.2.2.1) v3.2.2.2.2.2.2.2) v3.2.2.1) v3.2.2.2.1)))))
  else (if v3.1 = 0 then (some (.inl (0, (v3.2.1 + 1), v3.2.2.1, v3.2.2.2.1, v3.2.2.2.2.1, v3.2.2.2.2.2.1, v3.2.2.2.2.2.2.1, v3.2.2.2.2.2.2.2)))
  else ((fX7_betweenOf (s7_isLaid (s7_faceMany (s7_placeOf (s7_rankOf (s7_faces (s7_closed (s7_thrown o0 0) v3.2.2.2.2.1) v3.2.2.2.2.2.1) v3.2.2.2.2.2.2.1) v3.2.2.2.2.2.2.2) v3.2.2.1) v3.2.2.2.1) v3.2.1 (v3.2.2.1 - 1)).bind fun r7 =>
  ((fX7_heightNow (s7_isLaid (s7_faceMany (s7_placeOf (s7_rankOf (s7_faces (s7_closed (s7_thrown o0 0) v3.2.2.2.2.1) v3.2.2.2.2.2.1) v3.2.2.2.2.2.2.1) v3.2.2.2.2.2.2.2) v3.2.2.1) v3.2.2.2.1)).bind fun r9 =>
  ((fX7_rankAt (s7_isLaid (s7_faceMany (s7_placeOf (s7_rankOf (s7_faces (s7_closed (s7_thrown o0 0) (q7_closed r9.2)) (q7_faces r9.2)) (q7_rankOf r9.2)) (q7_placeOf r9.2)) (q7_faceMany r9.2)) (q7_isLaid r9.2)) v3.2.1).bind fun r11 =>
  (if r7 = (jshl 1 (r9.1 - r11)) then (some (.inl (1, (v3.2.1 + 1), (q7_faceMany r9.2), (q7_isLaid r9.2), (q7_closed r9.2), (q7_faces r9.2), (q7_rankOf r9.2), (q7_placeOf r9.2))))
  else (some (.inl (0, (v3.2.1 + 1), (q7_faceMany r9.2), (q7_isLaid r9.2), (q7_closed r9.2), (q7_faces r9.2), (q7_rankOf r9.2), (q7_placeOf r9.2)))))))))
def fX7_isSimple (o0 : OX7) : Option (Int32 × OX7) :=
  (fX7_lay (s7_thrown o0 0)).bind fun r1 =>
  (lp (fX7_isSimple_L13 o0) lpN (1, 1, (q7_faceMany r1), (q7_isLaid r1), (q7_closed r1), (q7_faces r1), (q7_rankOf r1), (q7_placeOf r1)))
theorem myX7_isSimple : MYv yX7_isSimple cX7_isSimple 3 (some .boolean) 0 := ⟨mw_7_66, mw_7_67, mw_7_68, mw_1_9, ⟨by decide +kernel, by decide +kernel⟩, by decide +kernel⟩
set_option maxRecDepth 100000 in
set_option maxHeartbeats 4000000 in
theorem kX7_isSimple (l : Launch) (Z : GZ) (a0 a0_buffer a0_now a0_made a0_history a0_saved a0_closed a0_faces a0_rankOf a0_placeOf a0_counted a0_steps a0_onto a0_goes a0_firstImage : Nat) (o0 : OX7) (res : Int32 × OX7) (h : fX7_isSimple o0 = some res) : MI l Z yX7_isSimple cX7_isSimple 3 .boolean 5 109 [.ref a0] [(a0, .inr (7, [.int (q7_thrown o0), .ref a0_buffer, .int (q7_length o0), .int (q7_at o0), .int (q7_from o0), .int (q7_kind o0), .int (q7_number o0), .int (q7_wrong o0), .ref a0_now, .ref a0_made, .ref a0_history, .ref a0_saved, .int (q7_entries o0), .int (q7_isSaved o0), .ref a0_closed, .ref a0_faces, .ref a0_rankOf, .ref a0_placeOf, .int (q7_faceMany o0), .int (q7_isLaid o0), .ref a0_counted, .ref a0_steps, .ref a0_onto, .ref a0_goes, .int (q7_found o0), .int (q7_images o0), .ref a0_firstImage, .int (q7_gathered o0)])), (a0_now, .inl (zI Z, 12, .inl (q7_now o0))), (a0_closed, .inl (zI Z, 256, .inl (q7_closed o0))), (a0_faces, .inl (zI Z, 256, .inl (q7_faces o0))), (a0_rankOf, .inl (zI Z, 256, .inl (q7_rankOf o0))), (a0_placeOf, .inl (zI Z, 256, .inl (q7_placeOf o0)))] res.1 [(a0, .inr (7, [.int (q7_thrown res.2), .ref a0_buffer, .int (q7_length o0), .int (q7_at o0), .int (q7_from o0), .int (q7_kind o0), .int (q7_number o0), .int (q7_wrong o0), .ref a0_now, .ref a0_made, .ref a0_history, .ref a0_saved, .int (q7_entries o0), .int (q7_isSaved o0), .ref a0_closed, .ref a0_faces, .ref a0_rankOf, .ref a0_placeOf, .int (q7_faceMany res.2), .int (q7_isLaid res.2), .ref a0_counted, .ref a0_steps, .ref a0_onto, .ref a0_goes, .int (q7_found o0), .int (q7_images o0), .ref a0_firstImage, .int (q7_gathered o0)])), (a0_now, .inl (zI Z, 12, .inl (q7_now o0))), (a0_closed, .inl (zI Z, 256, .inl (q7_closed res.2))), (a0_faces, .inl (zI Z, 256, .inl (q7_faces res.2))), (a0_rankOf, .inl (zI Z, 256, .inl (q7_rankOf res.2))), (a0_placeOf, .inl (zI Z, 256, .inl (q7_placeOf res.2)))] := by
  refine MI_of (by decide +kernel) (Nat.le_of_ble_eq_true rfl) (fun {p e s m args below meth c} A R hR Q hQ C hr hlk => ?_)
  unfold fX7_isSimple at h
  refine g_lv [0] [(0, .ref a0)] rfl ?_
  refine g_aload_n C dX7_isSimple_0 rfl 0 rfl ?_
  refine g_iconst C 0 dX7_isSimple_1 (by decide) ?_
  refine g_put C 7 52 gin7 tyX7 tyX7_ok nmX7 0 rfl rfl 0 (by decide) mw_5_85 rfl rfl (ty := .int) (by decide +kernel) rfl rfl (Nat.le_of_ble_eq_true rfl) [(a0, .inr (7, [.int 0, .ref a0_buffer, .int (q7_length o0), .int (q7_at o0), .int (q7_from o0), .int (q7_kind o0), .int (q7_number o0), .int (q7_wrong o0), .ref a0_now, .ref a0_made, .ref a0_history, .ref a0_saved, .int (q7_entries o0), .int (q7_isSaved o0), .ref a0_closed, .ref a0_faces, .ref a0_rankOf, .ref a0_placeOf, .int (q7_faceMany o0), .int (q7_isLaid o0), .ref a0_counted, .ref a0_steps, .ref a0_onto, .ref a0_goes, .int (q7_found o0), .int (q7_images o0), .ref a0_firstImage, .int (q7_gathered o0)])), (a0_now, .inl (zI Z, 12, .inl (q7_now o0))), (a0_closed, .inl (zI Z, 256, .inl (q7_closed o0))), (a0_faces, .inl (zI Z, 256, .inl (q7_faces o0))), (a0_rankOf, .inl (zI Z, 256, .inl (q7_rankOf o0))), (a0_placeOf, .inl (zI Z, 256, .inl (q7_placeOf o0)))] rfl dX7_isSimple_2 ?_
  refine g_aload_n C dX7_isSimple_5 rfl 0 rfl ?_
  obtain ⟨r1, hr2, h⟩ := bd_of h
  refine g_callVv C (kX7_lay l Z a0 a0_buffer a0_now a0_made a0_history a0_saved a0_closed a0_faces a0_rankOf a0_placeOf a0_counted a0_steps a0_onto a0_goes a0_firstImage (s7_thrown o0 0) r1 hr2) 0 rfl (ci := 7) rfl rfl myX7_lay 217 mw_6_120 rfl [0, 1, 2, 3, 4, 5] [] [0, 1, 2, 3, 4, 5] (wr := []) rfl rfl (by decide) (by decide) (by decide) [(a0, .inr (7, [.int 0, .ref a0_buffer, .int (q7_length o0), .int (q7_at o0), .int (q7_from o0), .int (q7_kind o0), .int (q7_number o0), .int (q7_wrong o0), .ref a0_now, .ref a0_made, .ref a0_history, .ref a0_saved, .int (q7_entries o0), .int (q7_isSaved o0), .ref a0_closed, .ref a0_faces, .ref a0_rankOf, .ref a0_placeOf, .int (q7_faceMany r1), .int (q7_isLaid r1), .ref a0_counted, .ref a0_steps, .ref a0_onto, .ref a0_goes, .int (q7_found o0), .int (q7_images o0), .ref a0_firstImage, .int (q7_gathered o0)])), (a0_now, .inl (zI Z, 12, .inl (q7_now o0))), (a0_closed, .inl (zI Z, 256, .inl (q7_closed r1))), (a0_faces, .inl (zI Z, 256, .inl (q7_faces r1))), (a0_rankOf, .inl (zI Z, 256, .inl (q7_rankOf r1))), (a0_placeOf, .inl (zI Z, 256, .inl (q7_placeOf r1)))] rfl (by decide) (Nat.le_of_ble_eq_true rfl) (by rw [hR]; exact Nat.le_of_ble_eq_true rfl) (by rw [hR]; exact Nat.le_of_ble_eq_true rfl) ⟨by rw [hR]; exact Nat.le_of_ble_eq_true rfl, by rw [hR]; exact Nat.le_of_ble_eq_true rfl⟩ rfl dX7_isSimple_6 ?_
  refine g_iconst C 1 dX7_isSimple_9 (by decide) ?_
  refine g_istore_n C dX7_isSimple_10 rfl (by decide) [(1, .int 1), (0, .ref a0)] rfl ?_
  refine g_iconst C 1 dX7_isSimple_11 (by decide) ?_
  refine g_istore_n C dX7_isSimple_12 rfl (by decide) [(2, .int 1), (1, .int 1), (0, .ref a0)] rfl ?_
  refine g_lv [2, 1, 0] [(0, .ref a0), (1, .int 1), (2, .int 1)] rfl ?_
  refine g_loop (lvf := fun v3 => [(0, .ref a0), (1, .int v3.1), (2, .int v3.2.1)]) (wsf := fun v3 => [(a0, .inr (7, [.int 0, .ref a0_buffer, .int (q7_length o0), .int (q7_at o0), .int (q7_from o0), .int (q7_kind o0), .int (q7_number o0), .int (q7_wrong o0), .ref a0_now, .ref a0_made, .ref a0_history, .ref a0_saved, .int (q7_entries o0), .int (q7_isSaved o0), .ref a0_closed, .ref a0_faces, .ref a0_rankOf, .ref a0_placeOf, .int v3.2.2.1, .int v3.2.2.2.1, .ref a0_counted, .ref a0_steps, .ref a0_onto, .ref a0_goes, .int (q7_found o0), .int (q7_images o0), .ref a0_firstImage, .int (q7_gathered o0)])), (a0_now, .inl (zI Z, 12, .inl (q7_now o0))), (a0_closed, .inl (zI Z, 256, .inl v3.2.2.2.2.1)), (a0_faces, .inl (zI Z, 256, .inl v3.2.2.2.2.2.1)), (a0_rankOf, .inl (zI Z, 256, .inl v3.2.2.2.2.2.2.1)), (a0_placeOf, .inl (zI Z, 256, .inl v3.2.2.2.2.2.2.2))]) h (fun v3 y1 h hk1 hx1 => ?_)
  refine g_eq (lv1 := [(0, .ref a0), (1, .int v3.1), (2, .int v3.2.1)]) (st1 := []) (ws1 := [(a0, .inr (7, [.int 0, .ref a0_buffer, .int (q7_length o0), .int (q7_at o0), .int (q7_from o0), .int (q7_kind o0), .int (q7_number o0), .int (q7_wrong o0), .ref a0_now, .ref a0_made, .ref a0_history, .ref a0_saved, .int (q7_entries o0), .int (q7_isSaved o0), .ref a0_closed, .ref a0_faces, .ref a0_rankOf, .ref a0_placeOf, .int v3.2.2.1, .int v3.2.2.2.1, .ref a0_counted, .ref a0_steps, .ref a0_onto, .ref a0_goes, .int (q7_found o0), .int (q7_images o0), .ref a0_firstImage, .int (q7_gathered o0)])), (a0_now, .inl (zI Z, 12, .inl (q7_now o0))), (a0_closed, .inl (zI Z, 256, .inl v3.2.2.2.2.1)), (a0_faces, .inl (zI Z, 256, .inl v3.2.2.2.2.2.1)), (a0_rankOf, .inl (zI Z, 256, .inl v3.2.2.2.2.2.2.1)), (a0_placeOf, .inl (zI Z, 256, .inl v3.2.2.2.2.2.2.2))]) rfl rfl rfl rfl ?_
  unfold fX7_isSimple_L13 at h
  refine g_iload_n C dX7_isSimple_13 rfl 2 rfl ?_
  refine g_aload_n C dX7_isSimple_14 rfl 0 rfl ?_
  refine g_get C 7 214 gin7 0 rfl rfl 18 (by decide) mw_5_103 rfl rfl dX7_isSimple_15 ?_
  refine g_icmp_ge C 63 dX7_isSimple_18 (by decide) (fun c4 => ?_) (fun c4 => ?_)
  · replace h := it_t c4 h
    obtain ⟨r5, h, hy⟩ := ex_of h
    rw [hx1 r5 hy] at h
    refine g_iload_n C dX7_isSimple_63 rfl 1 rfl ?_
    obtain ⟨hb, h⟩ := ck_of h
    obtain rfl := Option.some.inj h
    subst hQ
    exact g_zret C rfl (is01_of hb) hr hlk dX7_isSimple_64 [0, 1, 2, 3, 4, 5] rfl (by decide)
  · replace h := it_f c4 h
    refine g_iload_n C dX7_isSimple_21 rfl 1 rfl ?_
    refine g_if_eq C 55 dX7_isSimple_22 (by decide) (fun c6 => ?_) (fun c6 => ?_)
    · replace h := it_t c6 h
      refine g_iconst C 0 dX7_isSimple_55 (by decide) ?_
      refine g_istore_n C dX7_isSimple_56 rfl (by decide) [(1, .int 0), (0, .ref a0), (2, .int v3.2.1)] rfl ?_
      refine g_iinc C (v3.2.1 + 1) dX7_isSimple_57 2 rfl rfl (by decide) [(2, .int (v3.2.1 + 1)), (1, .int 0), (0, .ref a0)] rfl ?_
      refine g_goto C 13 dX7_isSimple_60 (by decide) ?_
      refine g_lv [2, 1, 0] [(0, .ref a0), (1, .int 0), (2, .int (v3.2.1 + 1))] rfl ?_
      exact hk1 (0, (v3.2.1 + 1), v3.2.2.1, v3.2.2.2.1, v3.2.2.2.2.1, v3.2.2.2.2.2.1, v3.2.2.2.2.2.2.1, v3.2.2.2.2.2.2.2) (Option.some.inj h).symm
    · replace h := it_f c6 h
      refine g_aload_n C dX7_isSimple_25 rfl 0 rfl ?_
      refine g_iload_n C dX7_isSimple_26 rfl 2 rfl ?_
      refine g_aload_n C dX7_isSimple_27 rfl 0 rfl ?_
      refine g_get C 7 214 gin7 0 rfl rfl 18 (by decide) mw_5_103 rfl rfl dX7_isSimple_28 ?_
      refine g_iconst C 1 dX7_isSimple_31 (by decide) ?_
      refine g_isub C dX7_isSimple_32 ?_
      obtain ⟨r7, hr8, h⟩ := bd_of h
      refine g_callVi C (kX7_betweenOf l Z a0 a0_buffer a0_now a0_made a0_history a0_saved a0_closed a0_faces a0_rankOf a0_placeOf a0_counted a0_steps a0_onto a0_goes a0_firstImage (s7_isLaid (s7_faceMany (s7_placeOf (s7_rankOf (s7_faces (s7_closed (s7_thrown o0 0) v3.2.2.2.2.1) v3.2.2.2.2.2.1) v3.2.2.2.2.2.2.1) v3.2.2.2.2.2.2.2) v3.2.2.1) v3.2.2.2.1) v3.2.1 (v3.2.2.1 - 1) r7 hr8) 0 rfl (ci := 7) rfl rfl myX7_betweenOf 275 mw_7_21 rfl [0, 3] [1, 2, 4, 5] [4, 0, 1, 5, 2, 3] (wr := [(a0_now, .inl (zI Z, 12, .inl (q7_now o0))), (a0_closed, .inl (zI Z, 256, .inl v3.2.2.2.2.1)), (a0_rankOf, .inl (zI Z, 256, .inl v3.2.2.2.2.2.2.1)), (a0_placeOf, .inl (zI Z, 256, .inl v3.2.2.2.2.2.2.2))]) rfl rfl (by decide) (by decide) (by decide) [(a0, .inr (7, [.int 0, .ref a0_buffer, .int (q7_length o0), .int (q7_at o0), .int (q7_from o0), .int (q7_kind o0), .int (q7_number o0), .int (q7_wrong o0), .ref a0_now, .ref a0_made, .ref a0_history, .ref a0_saved, .int (q7_entries o0), .int (q7_isSaved o0), .ref a0_closed, .ref a0_faces, .ref a0_rankOf, .ref a0_placeOf, .int v3.2.2.1, .int v3.2.2.2.1, .ref a0_counted, .ref a0_steps, .ref a0_onto, .ref a0_goes, .int (q7_found o0), .int (q7_images o0), .ref a0_firstImage, .int (q7_gathered o0)])), (a0_now, .inl (zI Z, 12, .inl (q7_now o0))), (a0_closed, .inl (zI Z, 256, .inl v3.2.2.2.2.1)), (a0_faces, .inl (zI Z, 256, .inl v3.2.2.2.2.2.1)), (a0_rankOf, .inl (zI Z, 256, .inl v3.2.2.2.2.2.2.1)), (a0_placeOf, .inl (zI Z, 256, .inl v3.2.2.2.2.2.2.2))] rfl (by decide) (Nat.le_of_ble_eq_true rfl) (by rw [hR]; exact Nat.le_of_ble_eq_true rfl) (by rw [hR]; exact Nat.le_of_ble_eq_true rfl) ⟨by rw [hR]; exact Nat.le_of_ble_eq_true rfl, by rw [hR]; exact Nat.le_of_ble_eq_true rfl⟩ rfl dX7_isSimple_33 ?_
      refine g_iconst C 1 dX7_isSimple_36 (by decide) ?_
      refine g_aload_n C dX7_isSimple_37 rfl 0 rfl ?_
      obtain ⟨r9, hr10, h⟩ := bd_of h
      refine g_callVi C (kX7_heightNow l Z a0 a0_buffer a0_now a0_made a0_history a0_saved a0_closed a0_faces a0_rankOf a0_placeOf a0_counted a0_steps a0_onto a0_goes a0_firstImage (s7_isLaid (s7_faceMany (s7_placeOf (s7_rankOf (s7_faces (s7_closed (s7_thrown o0 0) v3.2.2.2.2.1) v3.2.2.2.2.2.1) v3.2.2.2.2.2.2.1) v3.2.2.2.2.2.2.2) v3.2.2.1) v3.2.2.2.1) r9 hr10) 0 rfl (ci := 7) rfl rfl myX7_heightNow 266 mw_6_229 rfl [0, 1, 2, 3, 4, 5] [] [0, 1, 2, 3, 4, 5] (wr := []) rfl rfl (by decide) (by decide) (by decide) [(a0, .inr (7, [.int 0, .ref a0_buffer, .int (q7_length o0), .int (q7_at o0), .int (q7_from o0), .int (q7_kind o0), .int (q7_number o0), .int (q7_wrong o0), .ref a0_now, .ref a0_made, .ref a0_history, .ref a0_saved, .int (q7_entries o0), .int (q7_isSaved o0), .ref a0_closed, .ref a0_faces, .ref a0_rankOf, .ref a0_placeOf, .int (q7_faceMany r9.2), .int (q7_isLaid r9.2), .ref a0_counted, .ref a0_steps, .ref a0_onto, .ref a0_goes, .int (q7_found o0), .int (q7_images o0), .ref a0_firstImage, .int (q7_gathered o0)])), (a0_now, .inl (zI Z, 12, .inl (q7_now o0))), (a0_closed, .inl (zI Z, 256, .inl (q7_closed r9.2))), (a0_faces, .inl (zI Z, 256, .inl (q7_faces r9.2))), (a0_rankOf, .inl (zI Z, 256, .inl (q7_rankOf r9.2))), (a0_placeOf, .inl (zI Z, 256, .inl (q7_placeOf r9.2)))] rfl (by decide) (Nat.le_of_ble_eq_true rfl) (by rw [hR]; exact Nat.le_of_ble_eq_true rfl) (by rw [hR]; exact Nat.le_of_ble_eq_true rfl) ⟨by rw [hR]; exact Nat.le_of_ble_eq_true rfl, by rw [hR]; exact Nat.le_of_ble_eq_true rfl⟩ rfl dX7_isSimple_38 ?_
      refine g_aload_n C dX7_isSimple_41 rfl 0 rfl ?_
      refine g_iload_n C dX7_isSimple_42 rfl 2 rfl ?_
      obtain ⟨r11, hr12, h⟩ := bd_of h
      refine g_callVi C (kX7_rankAt l Z a0 a0_buffer a0_now a0_made a0_history a0_saved a0_closed a0_faces a0_rankOf a0_placeOf a0_counted a0_steps a0_onto a0_goes a0_firstImage (s7_isLaid (s7_faceMany (s7_placeOf (s7_rankOf (s7_faces (s7_closed (s7_thrown o0 0) (q7_closed r9.2)) (q7_faces r9.2)) (q7_rankOf r9.2)) (q7_placeOf r9.2)) (q7_faceMany r9.2)) (q7_isLaid r9.2)) v3.2.1 r11 hr12) 0 rfl (ci := 7) rfl rfl myX7_rankAt 263 mw_6_221 rfl [0, 3, 4] [1, 2, 5] [3, 0, 1, 4, 5, 2] (wr := [(a0_now, .inl (zI Z, 12, .inl (q7_now o0))), (a0_closed, .inl (zI Z, 256, .inl (q7_closed r9.2))), (a0_placeOf, .inl (zI Z, 256, .inl (q7_placeOf r9.2)))]) rfl rfl (by decide) (by decide) (by decide) [(a0, .inr (7, [.int 0, .ref a0_buffer, .int (q7_length o0), .int (q7_at o0), .int (q7_from o0), .int (q7_kind o0), .int (q7_number o0), .int (q7_wrong o0), .ref a0_now, .ref a0_made, .ref a0_history, .ref a0_saved, .int (q7_entries o0), .int (q7_isSaved o0), .ref a0_closed, .ref a0_faces, .ref a0_rankOf, .ref a0_placeOf, .int (q7_faceMany r9.2), .int (q7_isLaid r9.2), .ref a0_counted, .ref a0_steps, .ref a0_onto, .ref a0_goes, .int (q7_found o0), .int (q7_images o0), .ref a0_firstImage, .int (q7_gathered o0)])), (a0_now, .inl (zI Z, 12, .inl (q7_now o0))), (a0_closed, .inl (zI Z, 256, .inl (q7_closed r9.2))), (a0_faces, .inl (zI Z, 256, .inl (q7_faces r9.2))), (a0_rankOf, .inl (zI Z, 256, .inl (q7_rankOf r9.2))), (a0_placeOf, .inl (zI Z, 256, .inl (q7_placeOf r9.2)))] rfl (by decide) (Nat.le_of_ble_eq_true rfl) (by rw [hR]; exact Nat.le_of_ble_eq_true rfl) (by rw [hR]; exact Nat.le_of_ble_eq_true rfl) ⟨by rw [hR]; exact Nat.le_of_ble_eq_true rfl, by rw [hR]; exact Nat.le_of_ble_eq_true rfl⟩ rfl dX7_isSimple_43 ?_
      refine g_isub C dX7_isSimple_46 ?_
      refine g_ishl C dX7_isSimple_47 ?_
      refine g_icmp_ne C 55 dX7_isSimple_48 (by decide) (fun c13 => ?_) (fun c13 => ?_)
      · replace h := it_f c13 h
        refine g_iconst C 0 dX7_isSimple_55 (by decide) ?_
        refine g_istore_n C dX7_isSimple_56 rfl (by decide) [(1, .int 0), (0, .ref a0), (2, .int v3.2.1)] rfl ?_
        refine g_iinc C (v3.2.1 + 1) dX7_isSimple_57 2 rfl rfl (by decide) [(2, .int (v3.2.1 + 1)), (1, .int 0), (0, .ref a0)] rfl ?_
        refine g_goto C 13 dX7_isSimple_60 (by decide) ?_
        refine g_lv [2, 1, 0] [(0, .ref a0), (1, .int 0), (2, .int (v3.2.1 + 1))] rfl ?_
        exact hk1 (0, (v3.2.1 + 1), (q7_faceMany r9.2), (q7_isLaid r9.2), (q7_closed r9.2), (q7_faces r9.2), (q7_rankOf r9.2), (q7_placeOf r9.2)) (Option.some.inj h).symm
      · replace h := it_t c13 h
        refine g_iconst C 1 dX7_isSimple_51 (by decide) ?_
        refine g_goto C 56 dX7_isSimple_52 (by decide) ?_
        refine g_istore_n C dX7_isSimple_56 rfl (by decide) [(1, .int 1), (0, .ref a0), (2, .int v3.2.1)] rfl ?_
        refine g_iinc C (v3.2.1 + 1) dX7_isSimple_57 2 rfl rfl (by decide) [(2, .int (v3.2.1 + 1)), (1, .int 1), (0, .ref a0)] rfl ?_
        refine g_goto C 13 dX7_isSimple_60 (by decide) ?_
        refine g_lv [2, 1, 0] [(0, .ref a0), (1, .int 1), (2, .int (v3.2.1 + 1))] rfl ?_
        exact hk1 (1, (v3.2.1 + 1), (q7_faceMany r9.2), (q7_isLaid r9.2), (q7_closed r9.2), (q7_faces r9.2), (q7_rankOf r9.2), (q7_placeOf r9.2)) (Option.some.inj h).symm
def fX7_flags (o0 : OX7) : Option (Int32 × OX7) :=
  (fX7_lay (s7_thrown o0 0)).bind fun r1 =>
  ((fX7_chainsOf (s7_isLaid (s7_faceMany (s7_placeOf (s7_rankOf (s7_faces (s7_closed (s7_thrown o0 0) (q7_closed r1)) (q7_faces r1)) (q7_rankOf r1)) (q7_placeOf r1)) (q7_faceMany r1)) (q7_isLaid r1)) 0 ((q7_faceMany r1) - 1)).bind fun r3 =>
  (some (r3.1, (s7_counted (s7_isLaid (s7_faceMany (s7_placeOf (s7_rankOf (s7_faces (s7_closed (s7_thrown o0 0) (q7_closed r1)) (q7_faces r1)) (q7_rankOf r1)) (q7_placeOf r1)) (q7_faceMany r1)) (q7_isLaid r1)) (q7_counted r3.2)))))
theorem myX7_flags : MYv yX7_flags cX7_flags 1 (some .int) 0 := ⟨mw_7_70, mw_7_71, mw_7_72, mw_1_9, ⟨by decide +kernel, by decide +kernel⟩, by decide +kernel⟩
set_option maxRecDepth 100000 in
set_option maxHeartbeats 4000000 in
theorem kX7_flags (l : Launch) (Z : GZ) (a0 a0_buffer a0_now a0_made a0_history a0_saved a0_closed a0_faces a0_rankOf a0_placeOf a0_counted a0_steps a0_onto a0_goes a0_firstImage : Nat) (o0 : OX7) (res : Int32 × OX7) (h : fX7_flags o0 = some res) : MI l Z yX7_flags cX7_flags 1 .int 4 90 [.ref a0] [(a0, .inr (7, [.int (q7_thrown o0), .ref a0_buffer, .int (q7_length o0), .int (q7_at o0), .int (q7_from o0), .int (q7_kind o0), .int (q7_number o0), .int (q7_wrong o0), .ref a0_now, .ref a0_made, .ref a0_history, .ref a0_saved, .int (q7_entries o0), .int (q7_isSaved o0), .ref a0_closed, .ref a0_faces, .ref a0_rankOf, .ref a0_placeOf, .int (q7_faceMany o0), .int (q7_isLaid o0), .ref a0_counted, .ref a0_steps, .ref a0_onto, .ref a0_goes, .int (q7_found o0), .int (q7_images o0), .ref a0_firstImage, .int (q7_gathered o0)])), (a0_now, .inl (zI Z, 12, .inl (q7_now o0))), (a0_closed, .inl (zI Z, 256, .inl (q7_closed o0))), (a0_faces, .inl (zI Z, 256, .inl (q7_faces o0))), (a0_rankOf, .inl (zI Z, 256, .inl (q7_rankOf o0))), (a0_placeOf, .inl (zI Z, 256, .inl (q7_placeOf o0))), (a0_counted, .inl (zI Z, 256, .inl (q7_counted o0)))] res.1 [(a0, .inr (7, [.int (q7_thrown res.2), .ref a0_buffer, .int (q7_length o0), .int (q7_at o0), .int (q7_from o0), .int (q7_kind o0), .int (q7_number o0), .int (q7_wrong o0), .ref a0_now, .ref a0_made, .ref a0_history, .ref a0_saved, .int (q7_entries o0), .int (q7_isSaved o0), .ref a0_closed, .ref a0_faces, .ref a0_rankOf, .ref a0_placeOf, .int (q7_faceMany res.2), .int (q7_isLaid res.2), .ref a0_counted, .ref a0_steps, .ref a0_onto, .ref a0_goes, .int (q7_found o0), .int (q7_images o0), .ref a0_firstImage, .int (q7_gathered o0)])), (a0_now, .inl (zI Z, 12, .inl (q7_now o0))), (a0_closed, .inl (zI Z, 256, .inl (q7_closed res.2))), (a0_faces, .inl (zI Z, 256, .inl (q7_faces res.2))), (a0_rankOf, .inl (zI Z, 256, .inl (q7_rankOf res.2))), (a0_placeOf, .inl (zI Z, 256, .inl (q7_placeOf res.2))), (a0_counted, .inl (zI Z, 256, .inl (q7_counted res.2)))] := by
  refine MI_of (by decide +kernel) (Nat.le_of_ble_eq_true rfl) (fun {p e s m args below meth c} A R hR Q hQ C hr hlk => ?_)
  unfold fX7_flags at h
  refine g_lv [0] [(0, .ref a0)] rfl ?_
  refine g_aload_n C dX7_flags_0 rfl 0 rfl ?_
  refine g_iconst C 0 dX7_flags_1 (by decide) ?_
  refine g_put C 7 52 gin7 tyX7 tyX7_ok nmX7 0 rfl rfl 0 (by decide) mw_5_85 rfl rfl (ty := .int) (by decide +kernel) rfl rfl (Nat.le_of_ble_eq_true rfl) [(a0, .inr (7, [.int 0, .ref a0_buffer, .int (q7_length o0), .int (q7_at o0), .int (q7_from o0), .int (q7_kind o0), .int (q7_number o0), .int (q7_wrong o0), .ref a0_now, .ref a0_made, .ref a0_history, .ref a0_saved, .int (q7_entries o0), .int (q7_isSaved o0), .ref a0_closed, .ref a0_faces, .ref a0_rankOf, .ref a0_placeOf, .int (q7_faceMany o0), .int (q7_isLaid o0), .ref a0_counted, .ref a0_steps, .ref a0_onto, .ref a0_goes, .int (q7_found o0), .int (q7_images o0), .ref a0_firstImage, .int (q7_gathered o0)])), (a0_now, .inl (zI Z, 12, .inl (q7_now o0))), (a0_closed, .inl (zI Z, 256, .inl (q7_closed o0))), (a0_faces, .inl (zI Z, 256, .inl (q7_faces o0))), (a0_rankOf, .inl (zI Z, 256, .inl (q7_rankOf o0))), (a0_placeOf, .inl (zI Z, 256, .inl (q7_placeOf o0))), (a0_counted, .inl (zI Z, 256, .inl (q7_counted o0)))] rfl dX7_flags_2 ?_
  refine g_aload_n C dX7_flags_5 rfl 0 rfl ?_
  obtain ⟨r1, hr2, h⟩ := bd_of h
  refine g_callVv C (kX7_lay l Z a0 a0_buffer a0_now a0_made a0_history a0_saved a0_closed a0_faces a0_rankOf a0_placeOf a0_counted a0_steps a0_onto a0_goes a0_firstImage (s7_thrown o0 0) r1 hr2) 0 rfl (ci := 7) rfl rfl myX7_lay 217 mw_6_120 rfl [0, 1, 2, 3, 4, 5] [6] [1, 2, 3, 4, 5, 6, 0] (wr := [(a0_counted, .inl (zI Z, 256, .inl (q7_counted o0)))]) rfl rfl (by decide) (by decide) (by decide) [(a0, .inr (7, [.int 0, .ref a0_buffer, .int (q7_length o0), .int (q7_at o0), .int (q7_from o0), .int (q7_kind o0), .int (q7_number o0), .int (q7_wrong o0), .ref a0_now, .ref a0_made, .ref a0_history, .ref a0_saved, .int (q7_entries o0), .int (q7_isSaved o0), .ref a0_closed, .ref a0_faces, .ref a0_rankOf, .ref a0_placeOf, .int (q7_faceMany r1), .int (q7_isLaid r1), .ref a0_counted, .ref a0_steps, .ref a0_onto, .ref a0_goes, .int (q7_found o0), .int (q7_images o0), .ref a0_firstImage, .int (q7_gathered o0)])), (a0_now, .inl (zI Z, 12, .inl (q7_now o0))), (a0_closed, .inl (zI Z, 256, .inl (q7_closed r1))), (a0_faces, .inl (zI Z, 256, .inl (q7_faces r1))), (a0_rankOf, .inl (zI Z, 256, .inl (q7_rankOf r1))), (a0_placeOf, .inl (zI Z, 256, .inl (q7_placeOf r1))), (a0_counted, .inl (zI Z, 256, .inl (q7_counted o0)))] rfl (by decide) (Nat.le_of_ble_eq_true rfl) (by rw [hR]; exact Nat.le_of_ble_eq_true rfl) (by rw [hR]; exact Nat.le_of_ble_eq_true rfl) ⟨by rw [hR]; exact Nat.le_of_ble_eq_true rfl, by rw [hR]; exact Nat.le_of_ble_eq_true rfl⟩ rfl dX7_flags_6 ?_
  refine g_aload_n C dX7_flags_9 rfl 0 rfl ?_
  refine g_iconst C 0 dX7_flags_10 (by decide) ?_
  refine g_aload_n C dX7_flags_11 rfl 0 rfl ?_
  refine g_get C 7 214 gin7 0 rfl rfl 18 (by decide) mw_5_103 rfl rfl dX7_flags_12 ?_
  refine g_iconst C 1 dX7_flags_15 (by decide) ?_
  refine g_isub C dX7_flags_16 ?_
  obtain ⟨r3, hr4, h⟩ := bd_of h
  refine g_callVi C (kX7_chainsOf l Z a0 a0_buffer a0_now a0_made a0_history a0_saved a0_closed a0_faces a0_rankOf a0_placeOf a0_counted a0_steps a0_onto a0_goes a0_firstImage (s7_isLaid (s7_faceMany (s7_placeOf (s7_rankOf (s7_faces (s7_closed (s7_thrown o0 0) (q7_closed r1)) (q7_faces r1)) (q7_rankOf r1)) (q7_placeOf r1)) (q7_faceMany r1)) (q7_isLaid r1)) 0 ((q7_faceMany r1) - 1) r3 hr4) 0 rfl (ci := 7) rfl rfl myX7_chainsOf 278 mw_7_33 rfl [0, 2, 3, 6] [1, 4, 5] [3, 0, 4, 5, 1, 2, 6] (wr := [(a0_now, .inl (zI Z, 12, .inl (q7_now o0))), (a0_rankOf, .inl (zI Z, 256, .inl (q7_rankOf r1))), (a0_placeOf, .inl (zI Z, 256, .inl (q7_placeOf r1)))]) rfl rfl (by decide) (by decide) (by decide) [(a0, .inr (7, [.int 0, .ref a0_buffer, .int (q7_length o0), .int (q7_at o0), .int (q7_from o0), .int (q7_kind o0), .int (q7_number o0), .int (q7_wrong o0), .ref a0_now, .ref a0_made, .ref a0_history, .ref a0_saved, .int (q7_entries o0), .int (q7_isSaved o0), .ref a0_closed, .ref a0_faces, .ref a0_rankOf, .ref a0_placeOf, .int (q7_faceMany r1), .int (q7_isLaid r1), .ref a0_counted, .ref a0_steps, .ref a0_onto, .ref a0_goes, .int (q7_found o0), .int (q7_images o0), .ref a0_firstImage, .int (q7_gathered o0)])), (a0_now, .inl (zI Z, 12, .inl (q7_now o0))), (a0_closed, .inl (zI Z, 256, .inl (q7_closed r1))), (a0_faces, .inl (zI Z, 256, .inl (q7_faces r1))), (a0_rankOf, .inl (zI Z, 256, .inl (q7_rankOf r1))), (a0_placeOf, .inl (zI Z, 256, .inl (q7_placeOf r1))), (a0_counted, .inl (zI Z, 256, .inl (q7_counted r3.2)))] rfl (by decide) (Nat.le_of_ble_eq_true rfl) (by rw [hR]; exact Nat.le_of_ble_eq_true rfl) (by rw [hR]; exact Nat.le_of_ble_eq_true rfl) ⟨by rw [hR]; exact Nat.le_of_ble_eq_true rfl, by rw [hR]; exact Nat.le_of_ble_eq_true rfl⟩ rfl dX7_flags_17 ?_
  obtain rfl := Option.some.inj h
  subst hQ
  exact g_iret C rfl hr hlk dX7_flags_20 [0, 1, 2, 3, 4, 5, 6] rfl (by decide)
def fX7_facetNeighbours_L18 (o0 : OX7) (p1 : Int32) (r1 : OX7) (v4 : Int32 × Int32) : Option ((Int32 × Int32) ⊕ (Int32 × OX7)) :=
  if ((q7_now o0) (ix 1)) ≤ v4.2 then (ex (some (v4.1, (s7_isLaid (s7_faceMany (s7_placeOf (s7_rankOf (s7_faces (s7_closed o0 (q7_closed r1)) (q7_faces r1)) (q7_rankOf r1)) (q7_placeOf r1)) (q7_faceMany r1)) (q7_isLaid r1)))))
  else (ck (okI (2 + v4.2) 12) (if ((q7_now o0) (ix (2 + p1))) = ((q7_now o0) (ix (2 + v4.2))) then (some (.inl ((v4.1 ||| 0), (v4.2 + 1))))
  else ((fX7_isCover (s7_isLaid (s7_faceMany (s7_placeOf (s7_rankOf (s7_faces (s7_closed o0 (q7_closed r1)) (q7_faces r1)) (q7_rankOf r1)) (q7_placeOf r1)) (q7_faceMany r1)) (q7_isLaid r1)) ((q7_now o0) (ix (2 + p1))) (((q7_now o0) (ix (2 + p1))) &&& ((q7_now o0) (ix (2 + v4.2))))).bind fun r9 =>
  (if r9 = 0 then (some (.inl ((v4.1 ||| 0), (v4.2 + 1))))
  else ((fX7_isCover (s7_isLaid (s7_faceMany (s7_placeOf (s7_rankOf (s7_faces (s7_closed o0 (q7_closed r1)) (q7_faces r1)) (q7_rankOf r1)) (q7_placeOf r1)) (q7_faceMany r1)) (q7_isLaid r1)) ((q7_now o0) (ix (2 + v4.2))) (((q7_now o0) (ix (2 + p1))) &&& ((q7_now o0) (ix (2 + v4.2))))).bind fun r12 =>
  (if r12 = 0 then (some (.inl ((v4.1 ||| 0), (v4.2 + 1))))
  else (some (.inl ((v4.1 ||| (jshl 1 v4.2)), (v4.2 + 1))))))))))
def fX7_facetNeighbours (o0 : OX7) (p1 : Int32) : Option (Int32 × OX7) :=
  (fX7_lay o0).bind fun r1 =>
  (ck (okI (2 + p1) 12) (lp (fX7_facetNeighbours_L18 o0 p1 r1) lpN (0, 0)))
theorem myX7_facetNeighbours : MYv yX7_facetNeighbours cX7_facetNeighbours 6 (some .int) 1 := ⟨mw_7_87, ms_78, mw_7_88, mw_1_9, ⟨by decide +kernel, by decide +kernel⟩, by decide +kernel⟩
set_option maxRecDepth 100000 in
set_option maxHeartbeats 4000000 in
theorem kX7_facetNeighbours (l : Launch) (Z : GZ) (a0 a0_buffer a0_now a0_made a0_history a0_saved a0_closed a0_faces a0_rankOf a0_placeOf a0_counted a0_steps a0_onto a0_goes a0_firstImage : Nat) (o0 : OX7) (p1 : Int32) (res : Int32 × OX7) (h : fX7_facetNeighbours o0 p1 = some res) : MI l Z yX7_facetNeighbours cX7_facetNeighbours 6 .int 4 89 [.ref a0, .int p1] [(a0, .inr (7, [.int (q7_thrown o0), .ref a0_buffer, .int (q7_length o0), .int (q7_at o0), .int (q7_from o0), .int (q7_kind o0), .int (q7_number o0), .int (q7_wrong o0), .ref a0_now, .ref a0_made, .ref a0_history, .ref a0_saved, .int (q7_entries o0), .int (q7_isSaved o0), .ref a0_closed, .ref a0_faces, .ref a0_rankOf, .ref a0_placeOf, .int (q7_faceMany o0), .int (q7_isLaid o0), .ref a0_counted, .ref a0_steps, .ref a0_onto, .ref a0_goes, .int (q7_found o0), .int (q7_images o0), .ref a0_firstImage, .int (q7_gathered o0)])), (a0_now, .inl (zI Z, 12, .inl (q7_now o0))), (a0_closed, .inl (zI Z, 256, .inl (q7_closed o0))), (a0_faces, .inl (zI Z, 256, .inl (q7_faces o0))), (a0_rankOf, .inl (zI Z, 256, .inl (q7_rankOf o0))), (a0_placeOf, .inl (zI Z, 256, .inl (q7_placeOf o0)))] res.1 [(a0, .inr (7, [.int (q7_thrown o0), .ref a0_buffer, .int (q7_length o0), .int (q7_at o0), .int (q7_from o0), .int (q7_kind o0), .int (q7_number o0), .int (q7_wrong o0), .ref a0_now, .ref a0_made, .ref a0_history, .ref a0_saved, .int (q7_entries o0), .int (q7_isSaved o0), .ref a0_closed, .ref a0_faces, .ref a0_rankOf, .ref a0_placeOf, .int (q7_faceMany res.2), .int (q7_isLaid res.2), .ref a0_counted, .ref a0_steps, .ref a0_onto, .ref a0_goes, .int (q7_found o0), .int (q7_images o0), .ref a0_firstImage, .int (q7_gathered o0)])), (a0_now, .inl (zI Z, 12, .inl (q7_now o0))), (a0_closed, .inl (zI Z, 256, .inl (q7_closed res.2))), (a0_faces, .inl (zI Z, 256, .inl (q7_faces res.2))), (a0_rankOf, .inl (zI Z, 256, .inl (q7_rankOf res.2))), (a0_placeOf, .inl (zI Z, 256, .inl (q7_placeOf res.2)))] := by
  refine MI_of (by decide +kernel) (Nat.le_of_ble_eq_true rfl) (fun {p e s m args below meth c} A R hR Q hQ C hr hlk => ?_)
  unfold fX7_facetNeighbours at h
  refine g_lv [0, 1] [(0, .ref a0), (1, .int p1)] rfl ?_
  refine g_aload_n C dX7_facetNeighbours_0 rfl 0 rfl ?_
  obtain ⟨r1, hr2, h⟩ := bd_of h
  refine g_callVv C (kX7_lay l Z a0 a0_buffer a0_now a0_made a0_history a0_saved a0_closed a0_faces a0_rankOf a0_placeOf a0_counted a0_steps a0_onto a0_goes a0_firstImage o0 r1 hr2) 0 rfl (ci := 7) rfl rfl myX7_lay 217 mw_6_120 rfl [0, 1, 2, 3, 4, 5] [] [0, 1, 2, 3, 4, 5] (wr := []) rfl rfl (by decide) (by decide) (by decide) [(a0, .inr (7, [.int (q7_thrown o0), .ref a0_buffer, .int (q7_length o0), .int (q7_at o0), .int (q7_from o0), .int (q7_kind o0), .int (q7_number o0), .int (q7_wrong o0), .ref a0_now, .ref a0_made, .ref a0_history, .ref a0_saved, .int (q7_entries o0), .int (q7_isSaved o0), .ref a0_closed, .ref a0_faces, .ref a0_rankOf, .ref a0_placeOf, .int (q7_faceMany r1), .int (q7_isLaid r1), .ref a0_counted, .ref a0_steps, .ref a0_onto, .ref a0_goes, .int (q7_found o0), .int (q7_images o0), .ref a0_firstImage, .int (q7_gathered o0)])), (a0_now, .inl (zI Z, 12, .inl (q7_now o0))), (a0_closed, .inl (zI Z, 256, .inl (q7_closed r1))), (a0_faces, .inl (zI Z, 256, .inl (q7_faces r1))), (a0_rankOf, .inl (zI Z, 256, .inl (q7_rankOf r1))), (a0_placeOf, .inl (zI Z, 256, .inl (q7_placeOf r1)))] rfl (by decide) (Nat.le_of_ble_eq_true rfl) (by rw [hR]; exact Nat.le_of_ble_eq_true rfl) (by rw [hR]; exact Nat.le_of_ble_eq_true rfl) ⟨by rw [hR]; exact Nat.le_of_ble_eq_true rfl, by rw [hR]; exact Nat.le_of_ble_eq_true rfl⟩ rfl dX7_facetNeighbours_1 ?_
  refine g_iconst C 0 dX7_facetNeighbours_4 (by decide) ?_
  refine g_istore_n C dX7_facetNeighbours_5 rfl (by decide) [(2, .int 0), (0, .ref a0), (1, .int p1)] rfl ?_
  refine g_aload_n C dX7_facetNeighbours_6 rfl 1 rfl ?_
  refine g_get C 7 13 gin7 0 rfl rfl 8 (by decide) mw_5_93 rfl rfl dX7_facetNeighbours_7 ?_
  refine g_iconst C 2 dX7_facetNeighbours_10 (by decide) ?_
  refine g_iload_n C dX7_facetNeighbours_11 rfl 2 rfl ?_
  refine g_iadd C dX7_facetNeighbours_12 ?_
  obtain ⟨hi3, h⟩ := ck_of h
  refine g_iald C 1 rfl hi3 dX7_facetNeighbours_13 ?_
  refine g_istore_n C dX7_facetNeighbours_14 rfl (by decide) [(3, .int ((q7_now o0) (ix (2 + p1)))), (2, .int 0), (0, .ref a0), (1, .int p1)] rfl ?_
  refine g_iconst C 0 dX7_facetNeighbours_15 (by decide) ?_
  refine g_istore C dX7_facetNeighbours_16 (by decide) [(4, .int 0), (3, .int ((q7_now o0) (ix (2 + p1)))), (2, .int 0), (0, .ref a0), (1, .int p1)] rfl ?_
  refine g_lv [3, 2, 1, 0] [(0, .ref a0), (2, .int 0), (3, .int ((q7_now o0) (ix (2 + p1)))), (4, .int 0)] rfl ?_
  refine g_loop (lvf := fun v4 => [(0, .ref a0), (2, .int v4.1), (3, .int ((q7_now o0) (ix (2 + p1)))), (4, .int v4.2)]) (wsf := fun v4 => [(a0, .inr (7, [.int (q7_thrown o0), .ref a0_buffer, .int (q7_length o0), .int (q7_at o0), .int (q7_from o0), .int (q7_kind o0), .int (q7_number o0), .int (q7_wrong o0), .ref a0_now, .ref a0_made, .ref a0_history, .ref a0_saved, .int (q7_entries o0), .int (q7_isSaved o0), .ref a0_closed, .ref a0_faces, .ref a0_rankOf, .ref a0_placeOf, .int (q7_faceMany r1), .int (q7_isLaid r1), .ref a0_counted, .ref a0_steps, .ref a0_onto, .ref a0_goes, .int (q7_found o0), .int (q7_images o0), .ref a0_firstImage, .int (q7_gathered o0)])), (a0_now, .inl (zI Z, 12, .inl (q7_now o0))), (a0_closed, .inl (zI Z, 256, .inl (q7_closed r1))), (a0_faces, .inl (zI Z, 256, .inl (q7_faces r1))), (a0_rankOf, .inl (zI Z, 256, .inl (q7_rankOf r1))), (a0_placeOf, .inl (zI Z, 256, .inl (q7_placeOf r1)))]) h (fun v4 y1 h hk1 hx1 => ?_)
  refine g_eq (lv1 := [(0, .ref a0), (2, .int v4.1), (3, .int ((q7_now o0) (ix (2 + p1)))), (4, .int v4.2)]) (st1 := []) (ws1 := [(a0, .inr (7, [.int (q7_thrown o0), .ref a0_buffer, .int (q7_length o0), .int (q7_at o0), .int (q7_from o0), .int (q7_kind o0), .int (q7_number o0), .int (q7_wrong o0), .ref a0_now, .ref a0_made, .ref a0_history, .ref a0_saved, .int (q7_entries o0), .int (q7_isSaved o0), .ref a0_closed, .ref a0_faces, .ref a0_rankOf, .ref a0_placeOf, .int (q7_faceMany r1), .int (q7_isLaid r1), .ref a0_counted, .ref a0_steps, .ref a0_onto, .ref a0_goes, .int (q7_found o0), .int (q7_images o0), .ref a0_firstImage, .int (q7_gathered o0)])), (a0_now, .inl (zI Z, 12, .inl (q7_now o0))), (a0_closed, .inl (zI Z, 256, .inl (q7_closed r1))), (a0_faces, .inl (zI Z, 256, .inl (q7_faces r1))), (a0_rankOf, .inl (zI Z, 256, .inl (q7_rankOf r1))), (a0_placeOf, .inl (zI Z, 256, .inl (q7_placeOf r1)))]) rfl rfl rfl rfl ?_
  unfold fX7_facetNeighbours_L18 at h
  refine g_iload C dX7_facetNeighbours_18 3 rfl ?_
  refine g_aload_n C dX7_facetNeighbours_20 rfl 0 rfl ?_
  refine g_get C 7 13 gin7 0 rfl rfl 8 (by decide) mw_5_93 rfl rfl dX7_facetNeighbours_21 ?_
  refine g_iconst C 1 dX7_facetNeighbours_24 (by decide) ?_
  refine g_iald C 1 rfl (by decide) dX7_facetNeighbours_25 ?_
  refine g_icmp_ge C 88 dX7_facetNeighbours_26 (by decide) (fun c5 => ?_) (fun c5 => ?_)
  · replace h := it_t c5 h
    obtain ⟨r6, h, hy⟩ := ex_of h
    rw [hx1 r6 hy] at h
    refine g_iload_n C dX7_facetNeighbours_88 rfl 1 rfl ?_
    obtain rfl := Option.some.inj h
    subst hQ
    exact g_iret C rfl hr hlk dX7_facetNeighbours_89 [0, 1, 2, 3, 4, 5] rfl (by decide)
  · replace h := it_f c5 h
    refine g_aload_n C dX7_facetNeighbours_29 rfl 0 rfl ?_
    refine g_get C 7 13 gin7 0 rfl rfl 8 (by decide) mw_5_93 rfl rfl dX7_facetNeighbours_30 ?_
    refine g_iconst C 2 dX7_facetNeighbours_33 (by decide) ?_
    refine g_iload C dX7_facetNeighbours_34 3 rfl ?_
    refine g_iadd C dX7_facetNeighbours_36 ?_
    obtain ⟨hi7, h⟩ := ck_of h
    refine g_iald C 1 rfl hi7 dX7_facetNeighbours_37 ?_
    refine g_istore C dX7_facetNeighbours_38 (by decide) [(5, .int ((q7_now o0) (ix (2 + v4.2)))), (0, .ref a0), (2, .int v4.1), (3, .int ((q7_now o0) (ix (2 + p1)))), (4, .int v4.2)] rfl ?_
    refine g_iload_n C dX7_facetNeighbours_40 rfl 2 rfl ?_
    refine g_iload_n C dX7_facetNeighbours_41 rfl 3 rfl ?_
    refine g_iload C dX7_facetNeighbours_42 0 rfl ?_
    refine g_icmp_eq C 79 dX7_facetNeighbours_44 (by decide) (fun c8 => ?_) (fun c8 => ?_)
    · replace h := it_t c8 h
      refine g_iconst C 0 dX7_facetNeighbours_79 (by decide) ?_
      refine g_ior C dX7_facetNeighbours_80 ?_
      refine g_istore_n C dX7_facetNeighbours_81 rfl (by decide) [(2, .int (v4.1 ||| 0)), (5, .int ((q7_now o0) (ix (2 + v4.2)))), (0, .ref a0), (3, .int ((q7_now o0) (ix (2 + p1)))), (4, .int v4.2)] rfl ?_
      refine g_iinc C (v4.2 + 1) dX7_facetNeighbours_82 4 rfl rfl (by decide) [(4, .int (v4.2 + 1)), (2, .int (v4.1 ||| 0)), (5, .int ((q7_now o0) (ix (2 + v4.2)))), (0, .ref a0), (3, .int ((q7_now o0) (ix (2 + p1))))] rfl ?_
      refine g_goto C 18 dX7_facetNeighbours_85 (by decide) ?_
      refine g_lv [3, 1, 4, 0] [(0, .ref a0), (2, .int (v4.1 ||| 0)), (3, .int ((q7_now o0) (ix (2 + p1)))), (4, .int (v4.2 + 1))] rfl ?_
      exact hk1 ((v4.1 ||| 0), (v4.2 + 1)) (Option.some.inj h).symm
    · replace h := it_f c8 h
      refine g_aload_n C dX7_facetNeighbours_47 rfl 1 rfl ?_
      refine g_iload_n C dX7_facetNeighbours_48 rfl 3 rfl ?_
      refine g_iload_n C dX7_facetNeighbours_49 rfl 3 rfl ?_
      refine g_iload C dX7_facetNeighbours_50 0 rfl ?_
      refine g_iand C dX7_facetNeighbours_52 ?_
      obtain ⟨r9, hr10, h⟩ := bd_of h
      refine g_callVi C (kX7_isCover l Z a0 a0_buffer a0_now a0_made a0_history a0_saved a0_closed a0_faces a0_rankOf a0_placeOf a0_counted a0_steps a0_onto a0_goes a0_firstImage (s7_isLaid (s7_faceMany (s7_placeOf (s7_rankOf (s7_faces (s7_closed o0 (q7_closed r1)) (q7_faces r1)) (q7_rankOf r1)) (q7_placeOf r1)) (q7_faceMany r1)) (q7_isLaid r1)) ((q7_now o0) (ix (2 + p1))) (((q7_now o0) (ix (2 + p1))) &&& ((q7_now o0) (ix (2 + v4.2)))) r9 hr10) 0 rfl (ci := 7) rfl rfl myX7_isCover 202 mw_6_135 rfl [0, 2] [1, 3, 4, 5] [4, 0, 5, 1, 2, 3] (wr := [(a0_now, .inl (zI Z, 12, .inl (q7_now o0))), (a0_faces, .inl (zI Z, 256, .inl (q7_faces r1))), (a0_rankOf, .inl (zI Z, 256, .inl (q7_rankOf r1))), (a0_placeOf, .inl (zI Z, 256, .inl (q7_placeOf r1)))]) rfl rfl (by decide) (by decide) (by decide) [(a0, .inr (7, [.int (q7_thrown o0), .ref a0_buffer, .int (q7_length o0), .int (q7_at o0), .int (q7_from o0), .int (q7_kind o0), .int (q7_number o0), .int (q7_wrong o0), .ref a0_now, .ref a0_made, .ref a0_history, .ref a0_saved, .int (q7_entries o0), .int (q7_isSaved o0), .ref a0_closed, .ref a0_faces, .ref a0_rankOf, .ref a0_placeOf, .int (q7_faceMany r1), .int (q7_isLaid r1), .ref a0_counted, .ref a0_steps, .ref a0_onto, .ref a0_goes, .int (q7_found o0), .int (q7_images o0), .ref a0_firstImage, .int (q7_gathered o0)])), (a0_now, .inl (zI Z, 12, .inl (q7_now o0))), (a0_closed, .inl (zI Z, 256, .inl (q7_closed r1))), (a0_faces, .inl (zI Z, 256, .inl (q7_faces r1))), (a0_rankOf, .inl (zI Z, 256, .inl (q7_rankOf r1))), (a0_placeOf, .inl (zI Z, 256, .inl (q7_placeOf r1)))] rfl (by decide) (Nat.le_of_ble_eq_true rfl) (by rw [hR]; exact Nat.le_of_ble_eq_true rfl) (by rw [hR]; exact Nat.le_of_ble_eq_true rfl) ⟨by rw [hR]; exact Nat.le_of_ble_eq_true rfl, by rw [hR]; exact Nat.le_of_ble_eq_true rfl⟩ rfl dX7_facetNeighbours_53 ?_
      refine g_if_eq C 79 dX7_facetNeighbours_56 (by decide) (fun c11 => ?_) (fun c11 => ?_)
      · replace h := it_t c11 h
        refine g_iconst C 0 dX7_facetNeighbours_79 (by decide) ?_
        refine g_ior C dX7_facetNeighbours_80 ?_
        refine g_istore_n C dX7_facetNeighbours_81 rfl (by decide) [(2, .int (v4.1 ||| 0)), (5, .int ((q7_now o0) (ix (2 + v4.2)))), (0, .ref a0), (3, .int ((q7_now o0) (ix (2 + p1)))), (4, .int v4.2)] rfl ?_
        refine g_iinc C (v4.2 + 1) dX7_facetNeighbours_82 4 rfl rfl (by decide) [(4, .int (v4.2 + 1)), (2, .int (v4.1 ||| 0)), (5, .int ((q7_now o0) (ix (2 + v4.2)))), (0, .ref a0), (3, .int ((q7_now o0) (ix (2 + p1))))] rfl ?_
        refine g_goto C 18 dX7_facetNeighbours_85 (by decide) ?_
        refine g_lv [3, 1, 4, 0] [(0, .ref a0), (2, .int (v4.1 ||| 0)), (3, .int ((q7_now o0) (ix (2 + p1)))), (4, .int (v4.2 + 1))] rfl ?_
        exact hk1 ((v4.1 ||| 0), (v4.2 + 1)) (Option.some.inj h).symm
      · replace h := it_f c11 h
        refine g_aload_n C dX7_facetNeighbours_59 rfl 1 rfl ?_
        refine g_iload C dX7_facetNeighbours_60 0 rfl ?_
        refine g_iload_n C dX7_facetNeighbours_62 rfl 3 rfl ?_
        refine g_iload C dX7_facetNeighbours_63 0 rfl ?_
        refine g_iand C dX7_facetNeighbours_65 ?_
        obtain ⟨r12, hr13, h⟩ := bd_of h
        refine g_callVi C (kX7_isCover l Z a0 a0_buffer a0_now a0_made a0_history a0_saved a0_closed a0_faces a0_rankOf a0_placeOf a0_counted a0_steps a0_onto a0_goes a0_firstImage (s7_isLaid (s7_faceMany (s7_placeOf (s7_rankOf (s7_faces (s7_closed o0 (q7_closed r1)) (q7_faces r1)) (q7_rankOf r1)) (q7_placeOf r1)) (q7_faceMany r1)) (q7_isLaid r1)) ((q7_now o0) (ix (2 + v4.2))) (((q7_now o0) (ix (2 + p1))) &&& ((q7_now o0) (ix (2 + v4.2)))) r12 hr13) 0 rfl (ci := 7) rfl rfl myX7_isCover 202 mw_6_135 rfl [0, 2] [1, 3, 4, 5] [4, 0, 5, 1, 2, 3] (wr := [(a0_now, .inl (zI Z, 12, .inl (q7_now o0))), (a0_faces, .inl (zI Z, 256, .inl (q7_faces r1))), (a0_rankOf, .inl (zI Z, 256, .inl (q7_rankOf r1))), (a0_placeOf, .inl (zI Z, 256, .inl (q7_placeOf r1)))]) rfl rfl (by decide) (by decide) (by decide) [(a0, .inr (7, [.int (q7_thrown o0), .ref a0_buffer, .int (q7_length o0), .int (q7_at o0), .int (q7_from o0), .int (q7_kind o0), .int (q7_number o0), .int (q7_wrong o0), .ref a0_now, .ref a0_made, .ref a0_history, .ref a0_saved, .int (q7_entries o0), .int (q7_isSaved o0), .ref a0_closed, .ref a0_faces, .ref a0_rankOf, .ref a0_placeOf, .int (q7_faceMany r1), .int (q7_isLaid r1), .ref a0_counted, .ref a0_steps, .ref a0_onto, .ref a0_goes, .int (q7_found o0), .int (q7_images o0), .ref a0_firstImage, .int (q7_gathered o0)])), (a0_now, .inl (zI Z, 12, .inl (q7_now o0))), (a0_closed, .inl (zI Z, 256, .inl (q7_closed r1))), (a0_faces, .inl (zI Z, 256, .inl (q7_faces r1))), (a0_rankOf, .inl (zI Z, 256, .inl (q7_rankOf r1))), (a0_placeOf, .inl (zI Z, 256, .inl (q7_placeOf r1)))] rfl (by decide) (Nat.le_of_ble_eq_true rfl) (by rw [hR]; exact Nat.le_of_ble_eq_true rfl) (by rw [hR]; exact Nat.le_of_ble_eq_true rfl) ⟨by rw [hR]; exact Nat.le_of_ble_eq_true rfl, by rw [hR]; exact Nat.le_of_ble_eq_true rfl⟩ rfl dX7_facetNeighbours_66 ?_
        refine g_if_eq C 79 dX7_facetNeighbours_69 (by decide) (fun c14 => ?_) (fun c14 => ?_)
        · replace h := it_t c14 h
          refine g_iconst C 0 dX7_facetNeighbours_79 (by decide) ?_
          refine g_ior C dX7_facetNeighbours_80 ?_
          refine g_istore_n C dX7_facetNeighbours_81 rfl (by decide) [(2, .int (v4.1 ||| 0)), (5, .int ((q7_now o0) (ix (2 + v4.2)))), (0, .ref a0), (3, .int ((q7_now o0) (ix (2 + p1)))), (4, .int v4.2)] rfl ?_
          refine g_iinc C (v4.2 + 1) dX7_facetNeighbours_82 4 rfl rfl (by decide) [(4, .int (v4.2 + 1)), (2, .int (v4.1 ||| 0)), (5, .int ((q7_now o0) (ix (2 + v4.2)))), (0, .ref a0), (3, .int ((q7_now o0) (ix (2 + p1))))] rfl ?_
          refine g_goto C 18 dX7_facetNeighbours_85 (by decide) ?_
          refine g_lv [3, 1, 4, 0] [(0, .ref a0), (2, .int (v4.1 ||| 0)), (3, .int ((q7_now o0) (ix (2 + p1)))), (4, .int (v4.2 + 1))] rfl ?_
          exact hk1 ((v4.1 ||| 0), (v4.2 + 1)) (Option.some.inj h).symm
        · replace h := it_f c14 h
          refine g_iconst C 1 dX7_facetNeighbours_72 (by decide) ?_
          refine g_iload C dX7_facetNeighbours_73 4 rfl ?_
          refine g_ishl C dX7_facetNeighbours_75 ?_
          refine g_goto C 80 dX7_facetNeighbours_76 (by decide) ?_
          refine g_ior C dX7_facetNeighbours_80 ?_
          refine g_istore_n C dX7_facetNeighbours_81 rfl (by decide) [(2, .int (v4.1 ||| (jshl 1 v4.2))), (5, .int ((q7_now o0) (ix (2 + v4.2)))), (0, .ref a0), (3, .int ((q7_now o0) (ix (2 + p1)))), (4, .int v4.2)] rfl ?_
          refine g_iinc C (v4.2 + 1) dX7_facetNeighbours_82 4 rfl rfl (by decide) [(4, .int (v4.2 + 1)), (2, .int (v4.1 ||| (jshl 1 v4.2))), (5, .int ((q7_now o0) (ix (2 + v4.2)))), (0, .ref a0), (3, .int ((q7_now o0) (ix (2 + p1))))] rfl ?_
          refine g_goto C 18 dX7_facetNeighbours_85 (by decide) ?_
          refine g_lv [3, 1, 4, 0] [(0, .ref a0), (2, .int (v4.1 ||| (jshl 1 v4.2))), (3, .int ((q7_now o0) (ix (2 + p1)))), (4, .int (v4.2 + 1))] rfl ?_
          exact hk1 ((v4.1 ||| (jshl 1 v4.2)), (v4.2 + 1)) (Option.some.inj h).symm
def fX7_near (o0 : OX7) (p1 : Int32) (p2 : Int32) : Option (Int32 × OX7) :=
  if p2 = 0 then ((fX7_pointNeighbours o0 p1).bind fun r2 =>
  (some (r2.1, (s7_isLaid (s7_faceMany (s7_placeOf (s7_rankOf (s7_faces (s7_closed o0 (q7_closed r2.2)) (q7_faces r2.2)) (q7_rankOf r2.2)) (q7_placeOf r2.2)) (q7_faceMany r2.2)) (q7_isLaid r2.2)))))
  else ((fX7_facetNeighbours o0 p1).bind fun r4 =>
  (some (r4.1, (s7_isLaid (s7_faceMany (s7_placeOf (s7_rankOf (s7_faces (s7_closed o0 (q7_closed r4.2)) (q7_faces r4.2)) (q7_rankOf r4.2)) (q7_placeOf r4.2)) (q7_faceMany r4.2)) (q7_isLaid r4.2)))))
theorem myX7_near : MYv yX7_near cX7_near 3 (some .int) 2 := ⟨mw_7_83, ms_77, mw_7_84, mw_1_9, ⟨by decide +kernel, by decide +kernel⟩, by decide +kernel⟩
set_option maxRecDepth 100000 in
set_option maxHeartbeats 4000000 in
theorem kX7_near (l : Launch) (Z : GZ) (a0 a0_buffer a0_now a0_made a0_history a0_saved a0_closed a0_faces a0_rankOf a0_placeOf a0_counted a0_steps a0_onto a0_goes a0_firstImage : Nat) (o0 : OX7) (p1 : Int32) (p2 : Int32) (res : Int32 × OX7) (h : fX7_near o0 p1 p2 = some res) : MI l Z yX7_near cX7_near 3 .int 5 114 [.ref a0, .int p1, .int p2] [(a0, .inr (7, [.int (q7_thrown o0), .ref a0_buffer, .int (q7_length o0), .int (q7_at o0), .int (q7_from o0), .int (q7_kind o0), .int (q7_number o0), .int (q7_wrong o0), .ref a0_now, .ref a0_made, .ref a0_history, .ref a0_saved, .int (q7_entries o0), .int (q7_isSaved o0), .ref a0_closed, .ref a0_faces, .ref a0_rankOf, .ref a0_placeOf, .int (q7_faceMany o0), .int (q7_isLaid o0), .ref a0_counted, .ref a0_steps, .ref a0_onto, .ref a0_goes, .int (q7_found o0), .int (q7_images o0), .ref a0_firstImage, .int (q7_gathered o0)])), (a0_now, .inl (zI Z, 12, .inl (q7_now o0))), (a0_closed, .inl (zI Z, 256, .inl (q7_closed o0))), (a0_faces, .inl (zI Z, 256, .inl (q7_faces o0))), (a0_rankOf, .inl (zI Z, 256, .inl (q7_rankOf o0))), (a0_placeOf, .inl (zI Z, 256, .inl (q7_placeOf o0)))] res.1 [(a0, .inr (7, [.int (q7_thrown o0), .ref a0_buffer, .int (q7_length o0), .int (q7_at o0), .int (q7_from o0), .int (q7_kind o0), .int (q7_number o0), .int (q7_wrong o0), .ref a0_now, .ref a0_made, .ref a0_history, .ref a0_saved, .int (q7_entries o0), .int (q7_isSaved o0), .ref a0_closed, .ref a0_faces, .ref a0_rankOf, .ref a0_placeOf, .int (q7_faceMany res.2), .int (q7_isLaid res.2), .ref a0_counted, .ref a0_steps, .ref a0_onto, .ref a0_goes, .int (q7_found o0), .int (q7_images o0), .ref a0_firstImage, .int (q7_gathered o0)])), (a0_now, .inl (zI Z, 12, .inl (q7_now o0))), (a0_closed, .inl (zI Z, 256, .inl (q7_closed res.2))), (a0_faces, .inl (zI Z, 256, .inl (q7_faces res.2))), (a0_rankOf, .inl (zI Z, 256, .inl (q7_rankOf res.2))), (a0_placeOf, .inl (zI Z, 256, .inl (q7_placeOf res.2)))] := by
  refine MI_of (by decide +kernel) (Nat.le_of_ble_eq_true rfl) (fun {p e s m args below meth c} A R hR Q hQ C hr hlk => ?_)
  unfold fX7_near at h
  refine g_lv [0, 1, 2] [(0, .ref a0), (1, .int p1), (2, .int p2)] rfl ?_
  refine g_iload_n C dX7_near_0 rfl 2 rfl ?_
  refine g_if_eq C 12 dX7_near_1 (by decide) (fun c1 => ?_) (fun c1 => ?_)
  · replace h := it_t c1 h
    refine g_aload_n C dX7_near_12 rfl 0 rfl ?_
    refine g_iload_n C dX7_near_13 rfl 1 rfl ?_
    obtain ⟨r2, hr3, h⟩ := bd_of h
    refine g_callVi C (kX7_pointNeighbours l Z a0 a0_buffer a0_now a0_made a0_history a0_saved a0_closed a0_faces a0_rankOf a0_placeOf a0_counted a0_steps a0_onto a0_goes a0_firstImage o0 p1 r2 hr3) 0 rfl (ci := 7) rfl rfl myX7_pointNeighbours 248 mw_6_160 rfl [0, 1, 2, 3, 4, 5] [] [0, 1, 2, 3, 4, 5] (wr := []) rfl rfl (by decide) (by decide) (by decide) [(a0, .inr (7, [.int (q7_thrown o0), .ref a0_buffer, .int (q7_length o0), .int (q7_at o0), .int (q7_from o0), .int (q7_kind o0), .int (q7_number o0), .int (q7_wrong o0), .ref a0_now, .ref a0_made, .ref a0_history, .ref a0_saved, .int (q7_entries o0), .int (q7_isSaved o0), .ref a0_closed, .ref a0_faces, .ref a0_rankOf, .ref a0_placeOf, .int (q7_faceMany r2.2), .int (q7_isLaid r2.2), .ref a0_counted, .ref a0_steps, .ref a0_onto, .ref a0_goes, .int (q7_found o0), .int (q7_images o0), .ref a0_firstImage, .int (q7_gathered o0)])), (a0_now, .inl (zI Z, 12, .inl (q7_now o0))), (a0_closed, .inl (zI Z, 256, .inl (q7_closed r2.2))), (a0_faces, .inl (zI Z, 256, .inl (q7_faces r2.2))), (a0_rankOf, .inl (zI Z, 256, .inl (q7_rankOf r2.2))), (a0_placeOf, .inl (zI Z, 256, .inl (q7_placeOf r2.2)))] rfl (by decide) (Nat.le_of_ble_eq_true rfl) (by rw [hR]; exact Nat.le_of_ble_eq_true rfl) (by rw [hR]; exact Nat.le_of_ble_eq_true rfl) ⟨by rw [hR]; exact Nat.le_of_ble_eq_true rfl, by rw [hR]; exact Nat.le_of_ble_eq_true rfl⟩ rfl dX7_near_14 ?_
    obtain rfl := Option.some.inj h
    subst hQ
    exact g_iret C rfl hr hlk dX7_near_17 [0, 1, 2, 3, 4, 5] rfl (by decide)
  · replace h := it_f c1 h
    refine g_aload_n C dX7_near_4 rfl 0 rfl ?_
    refine g_iload_n C dX7_near_5 rfl 1 rfl ?_
    obtain ⟨r4, hr5, h⟩ := bd_of h
    refine g_callVi C (kX7_facetNeighbours l Z a0 a0_buffer a0_now a0_made a0_history a0_saved a0_closed a0_faces a0_rankOf a0_placeOf a0_counted a0_steps a0_onto a0_goes a0_firstImage o0 p1 r4 hr5) 0 rfl (ci := 7) rfl rfl myX7_facetNeighbours 287 mw_7_85 rfl [0, 1, 2, 3, 4, 5] [] [0, 1, 2, 3, 4, 5] (wr := []) rfl rfl (by decide) (by decide) (by decide) [(a0, .inr (7, [.int (q7_thrown o0), .ref a0_buffer, .int (q7_length o0), .int (q7_at o0), .int (q7_from o0), .int (q7_kind o0), .int (q7_number o0), .int (q7_wrong o0), .ref a0_now, .ref a0_made, .ref a0_history, .ref a0_saved, .int (q7_entries o0), .int (q7_isSaved o0), .ref a0_closed, .ref a0_faces, .ref a0_rankOf, .ref a0_placeOf, .int (q7_faceMany r4.2), .int (q7_isLaid r4.2), .ref a0_counted, .ref a0_steps, .ref a0_onto, .ref a0_goes, .int (q7_found o0), .int (q7_images o0), .ref a0_firstImage, .int (q7_gathered o0)])), (a0_now, .inl (zI Z, 12, .inl (q7_now o0))), (a0_closed, .inl (zI Z, 256, .inl (q7_closed r4.2))), (a0_faces, .inl (zI Z, 256, .inl (q7_faces r4.2))), (a0_rankOf, .inl (zI Z, 256, .inl (q7_rankOf r4.2))), (a0_placeOf, .inl (zI Z, 256, .inl (q7_placeOf r4.2)))] rfl (by decide) (Nat.le_of_ble_eq_true rfl) (by rw [hR]; exact Nat.le_of_ble_eq_true rfl) (by rw [hR]; exact Nat.le_of_ble_eq_true rfl) ⟨by rw [hR]; exact Nat.le_of_ble_eq_true rfl, by rw [hR]; exact Nat.le_of_ble_eq_true rfl⟩ rfl dX7_near_6 ?_
    refine g_goto C 17 dX7_near_9 (by decide) ?_
    obtain rfl := Option.some.inj h
    subst hQ
    exact g_iret C rfl hr hlk dX7_near_17 [0, 1, 2, 3, 4, 5] rfl (by decide)
def fX7_isOne (o0 : OX7) (p1 : Int32) (p2 : Int32) : Option (Int32) :=
  if p2 = 0 then ((fX7_isPoint o0 p1).bind fun r2 =>
  (ck (is01 r2) (some r2)))
  else ((fX7_isFacet o0 p1).bind fun r4 =>
  (ck (is01 r4) (some r4)))
theorem myX7_isOne : MYv yX7_isOne cX7_isOne 3 (some .boolean) 2 := ⟨mw_7_79, ms_76, mw_7_80, mw_1_9, ⟨by decide +kernel, by decide +kernel⟩, by decide +kernel⟩
set_option maxRecDepth 100000 in
set_option maxHeartbeats 4000000 in
theorem kX7_isOne (l : Launch) (Z : GZ) (a0 a0_buffer a0_now a0_made a0_history a0_saved a0_closed a0_faces a0_rankOf a0_placeOf a0_counted a0_steps a0_onto a0_goes a0_firstImage : Nat) (o0 : OX7) (p1 : Int32) (p2 : Int32) (res : Int32) (h : fX7_isOne o0 p1 p2 = some res) : MI l Z yX7_isOne cX7_isOne 3 .boolean 2 43 [.ref a0, .int p1, .int p2] [(a0, .inr (7, [.int (q7_thrown o0), .ref a0_buffer, .int (q7_length o0), .int (q7_at o0), .int (q7_from o0), .int (q7_kind o0), .int (q7_number o0), .int (q7_wrong o0), .ref a0_now, .ref a0_made, .ref a0_history, .ref a0_saved, .int (q7_entries o0), .int (q7_isSaved o0), .ref a0_closed, .ref a0_faces, .ref a0_rankOf, .ref a0_placeOf, .int (q7_faceMany o0), .int (q7_isLaid o0), .ref a0_counted, .ref a0_steps, .ref a0_onto, .ref a0_goes, .int (q7_found o0), .int (q7_images o0), .ref a0_firstImage, .int (q7_gathered o0)])), (a0_now, .inl (zI Z, 12, .inl (q7_now o0)))] res [(a0, .inr (7, [.int (q7_thrown o0), .ref a0_buffer, .int (q7_length o0), .int (q7_at o0), .int (q7_from o0), .int (q7_kind o0), .int (q7_number o0), .int (q7_wrong o0), .ref a0_now, .ref a0_made, .ref a0_history, .ref a0_saved, .int (q7_entries o0), .int (q7_isSaved o0), .ref a0_closed, .ref a0_faces, .ref a0_rankOf, .ref a0_placeOf, .int (q7_faceMany o0), .int (q7_isLaid o0), .ref a0_counted, .ref a0_steps, .ref a0_onto, .ref a0_goes, .int (q7_found o0), .int (q7_images o0), .ref a0_firstImage, .int (q7_gathered o0)])), (a0_now, .inl (zI Z, 12, .inl (q7_now o0)))] := by
  refine MI_of (by decide +kernel) (Nat.le_of_ble_eq_true rfl) (fun {p e s m args below meth c} A R hR Q hQ C hr hlk => ?_)
  unfold fX7_isOne at h
  refine g_lv [0, 1, 2] [(0, .ref a0), (1, .int p1), (2, .int p2)] rfl ?_
  refine g_iload_n C dX7_isOne_0 rfl 2 rfl ?_
  refine g_if_eq C 12 dX7_isOne_1 (by decide) (fun c1 => ?_) (fun c1 => ?_)
  · replace h := it_t c1 h
    refine g_aload_n C dX7_isOne_12 rfl 0 rfl ?_
    refine g_iload_n C dX7_isOne_13 rfl 1 rfl ?_
    obtain ⟨r2, hr3, h⟩ := bd_of h
    refine g_callVi C (kX7_isPoint l Z a0 a0_buffer a0_now a0_made a0_history a0_saved a0_closed a0_faces a0_rankOf a0_placeOf a0_counted a0_steps a0_onto a0_goes a0_firstImage o0 p1 r2 hr3) 0 rfl (ci := 7) rfl rfl myX7_isPoint 220 mw_6_76 rfl [0, 1] [] [0, 1] (wr := []) rfl rfl (by decide) (by decide) (by decide) [(a0, .inr (7, [.int (q7_thrown o0), .ref a0_buffer, .int (q7_length o0), .int (q7_at o0), .int (q7_from o0), .int (q7_kind o0), .int (q7_number o0), .int (q7_wrong o0), .ref a0_now, .ref a0_made, .ref a0_history, .ref a0_saved, .int (q7_entries o0), .int (q7_isSaved o0), .ref a0_closed, .ref a0_faces, .ref a0_rankOf, .ref a0_placeOf, .int (q7_faceMany o0), .int (q7_isLaid o0), .ref a0_counted, .ref a0_steps, .ref a0_onto, .ref a0_goes, .int (q7_found o0), .int (q7_images o0), .ref a0_firstImage, .int (q7_gathered o0)])), (a0_now, .inl (zI Z, 12, .inl (q7_now o0)))] rfl (by decide) (Nat.le_of_ble_eq_true rfl) (by rw [hR]; exact Nat.le_of_ble_eq_true rfl) (by rw [hR]; exact Nat.le_of_ble_eq_true rfl) ⟨by rw [hR]; exact Nat.le_of_ble_eq_true rfl, by rw [hR]; exact Nat.le_of_ble_eq_true rfl⟩ rfl dX7_isOne_14 ?_
    obtain ⟨hb, h⟩ := ck_of h
    obtain rfl := Option.some.inj h
    subst hQ
    exact g_zret C rfl (is01_of hb) hr hlk dX7_isOne_17 [0, 1] rfl (by decide)
  · replace h := it_f c1 h
    refine g_aload_n C dX7_isOne_4 rfl 0 rfl ?_
    refine g_iload_n C dX7_isOne_5 rfl 1 rfl ?_
    obtain ⟨r4, hr5, h⟩ := bd_of h
    refine g_callVi C (kX7_isFacet l Z a0 a0_buffer a0_now a0_made a0_history a0_saved a0_closed a0_faces a0_rankOf a0_placeOf a0_counted a0_steps a0_onto a0_goes a0_firstImage o0 p1 r4 hr5) 0 rfl (ci := 7) rfl rfl myX7_isFacet 223 mw_6_80 rfl [0, 1] [] [0, 1] (wr := []) rfl rfl (by decide) (by decide) (by decide) [(a0, .inr (7, [.int (q7_thrown o0), .ref a0_buffer, .int (q7_length o0), .int (q7_at o0), .int (q7_from o0), .int (q7_kind o0), .int (q7_number o0), .int (q7_wrong o0), .ref a0_now, .ref a0_made, .ref a0_history, .ref a0_saved, .int (q7_entries o0), .int (q7_isSaved o0), .ref a0_closed, .ref a0_faces, .ref a0_rankOf, .ref a0_placeOf, .int (q7_faceMany o0), .int (q7_isLaid o0), .ref a0_counted, .ref a0_steps, .ref a0_onto, .ref a0_goes, .int (q7_found o0), .int (q7_images o0), .ref a0_firstImage, .int (q7_gathered o0)])), (a0_now, .inl (zI Z, 12, .inl (q7_now o0)))] rfl (by decide) (Nat.le_of_ble_eq_true rfl) (by rw [hR]; exact Nat.le_of_ble_eq_true rfl) (by rw [hR]; exact Nat.le_of_ble_eq_true rfl) ⟨by rw [hR]; exact Nat.le_of_ble_eq_true rfl, by rw [hR]; exact Nat.le_of_ble_eq_true rfl⟩ rfl dX7_isOne_6 ?_
    refine g_goto C 17 dX7_isOne_9 (by decide) ?_
    obtain ⟨hb, h⟩ := ck_of h
    obtain rfl := Option.some.inj h
    subst hQ
    exact g_zret C rfl (is01_of hb) hr hlk dX7_isOne_17 [0, 1] rfl (by decide)
def fX7_laySteps_L99 (x1 : Int32) (v5 : Int32 × Int32 × Int32 × (Nat → Int32) × (Nat → Int32) × (Nat → Int32) × (Nat → Int32) × (Nat → Int32)) (v8 : Int32 × Int32 × Int32 × (Nat → Int32) × (Nat → Int32) × (Nat → Int32) × (Nat → Int32) × (Nat → Int32)) (x12 : Int32) (x13 : Int32) (x14 : Int32) (x15 : Nat → Int32) (x16 : Nat → Int32) (x17 : Nat → Int32) (x18 : Nat → Int32) (v19 : Int32 × (Nat → Int32)) : Option ((Int32 × (Nat → Int32)) ⊕ ((Int32 × Int32 × Int32 × (Nat → Int32) × (Nat → Int32) × (Nat → Int32) × (Nat → Int32) × (Nat → Int32)) ⊕ ((Int32 × Int32 × Int32 × (Nat → Int32) × (Nat → Int32) × (Nat → Int32) × (Nat → Int32) × (Nat → Int32)) ⊕ (OX7)))) :=
  if x1 ≤ v19.1 then (ex (some (.inl ((v8.1 + 1), x13, x14, x15, x16, x17, x18, v19.2))))
  else ((fX7_has x12 v19.1).bind fun r22 =>
  (if r22 = 0 then (ck (okI v19.1 10) (ck (okI v19.1 10) (some (.inl ((v19.1 + 1), (upd v19.2 (ix v19.1) (v19.2 (ix v19.1))))))))
  else (ck (okI v19.1 10) (if (v19.2 (ix v19.1)) = (-1) then (ck (okI v19.1 10) (some (.inl ((v19.1 + 1), (upd v19.2 (ix v19.1) (v5.1 + 1))))))
  else (ck (okI v19.1 10) (ck (okI v19.1 10) (some (.inl ((v19.1 + 1), (upd v19.2 (ix v19.1) (v19.2 (ix v19.1))))))))))))
def fX7_laySteps_J94 (x1 : Int32) (v5 : Int32 × Int32 × Int32 × (Nat → Int32) × (Nat → Int32) × (Nat → Int32) × (Nat → Int32) × (Nat → Int32)) (v8 : Int32 × Int32 × Int32 × (Nat → Int32) × (Nat → Int32) × (Nat → Int32) × (Nat → Int32) × (Nat → Int32)) (x12 : Int32) (x13 : Int32) (x14 : Int32) (x15 : Nat → Int32) (x16 : Nat → Int32) (x17 : Nat → Int32) (x18 : Nat → Int32) : Option ((Int32 × Int32 × Int32 × (Nat → Int32) × (Nat → Int32) × (Nat → Int32) × (Nat → Int32) × (Nat → Int32)) ⊕ ((Int32 × Int32 × Int32 × (Nat → Int32) × (Nat → Int32) × (Nat → Int32) × (Nat → Int32) × (Nat → Int32)) ⊕ (OX7))) :=
  lp (fX7_laySteps_L99 x1 v5 v8 x12 x13 x14 x15 x16 x17 x18) lpN (0, v8.2.2.2.2.2.2.2)
def fX7_laySteps_L65 (o0 : OX7) (p2 : Int32) (x1 : Int32) (v5 : Int32 × Int32 × Int32 × (Nat → Int32) × (Nat → Int32) × (Nat → Int32) × (Nat → Int32) × (Nat → Int32)) (v8 : Int32 × Int32 × Int32 × (Nat → Int32) × (Nat → Int32) × (Nat → Int32) × (Nat → Int32) × (Nat → Int32)) : Option ((Int32 × Int32 × Int32 × (Nat → Int32) × (Nat → Int32) × (Nat → Int32) × (Nat → Int32) × (Nat → Int32)) ⊕ ((Int32 × Int32 × Int32 × (Nat → Int32) × (Nat → Int32) × (Nat → Int32) × (Nat → Int32) × (Nat → Int32)) ⊕ (OX7))) :=
  if x1 ≤ v8.1 then (ex (some (.inl ((v5.1 + 1), v8.2.1, v8.2.2.1, v8.2.2.2.1, v8.2.2.2.2.1, v8.2.2.2.2.2.1, v8.2.2.2.2.2.2.1, v8.2.2.2.2.2.2.2))))
  else (ck (okI v8.1 10) (if (v8.2.2.2.2.2.2.2 (ix v8.1)) = v5.1 then ((fX7_near (s7_steps (s7_isLaid (s7_faceMany (s7_placeOf (s7_rankOf (s7_faces (s7_closed o0 v8.2.2.2.1) v8.2.2.2.2.1) v8.2.2.2.2.2.1) v8.2.2.2.2.2.2.1) v8.2.1) v8.2.2.1) v8.2.2.2.2.2.2.2) v8.1 p2).bind fun r33 =>
  (fX7_laySteps_J94 x1 v5 v8 r33.1 (q7_faceMany r33.2) (q7_isLaid r33.2) (q7_closed r33.2) (q7_faces r33.2) (q7_rankOf r33.2) (q7_placeOf r33.2)))
  else (fX7_laySteps_J94 x1 v5 v8 0 v8.2.1 v8.2.2.1 v8.2.2.2.1 v8.2.2.2.2.1 v8.2.2.2.2.2.1 v8.2.2.2.2.2.2.1)))
def fX7_laySteps_L56 (o0 : OX7) (p2 : Int32) (x1 : Int32) (v5 : Int32 × Int32 × Int32 × (Nat → Int32) × (Nat → Int32) × (Nat → Int32) × (Nat → Int32) × (Nat → Int32)) : Option ((Int32 × Int32 × Int32 × (Nat → Int32) × (Nat → Int32) × (Nat → Int32) × (Nat → Int32) × (Nat → Int32)) ⊕ (OX7)) :=
  if x1 ≤ v5.1 then (ex (some (s7_steps (s7_isLaid (s7_faceMany (s7_placeOf (s7_rankOf (s7_faces (s7_closed o0 v5.2.2.2.1) v5.2.2.2.2.1) v5.2.2.2.2.2.1) v5.2.2.2.2.2.2.1) v5.2.1) v5.2.2.1) v5.2.2.2.2.2.2.2)))
  else (lp (fX7_laySteps_L65 o0 p2 x1 v5) lpN (0, v5.2.1, v5.2.2.1, v5.2.2.2.1, v5.2.2.2.2.1, v5.2.2.2.2.2.1, v5.2.2.2.2.2.2.1, v5.2.2.2.2.2.2.2))
def fX7_laySteps_L23 (o0 : OX7) (p1 : Int32) (p2 : Int32) (x1 : Int32) (v2 : Int32 × (Nat → Int32)) : Option ((Int32 × (Nat → Int32)) ⊕ (OX7)) :=
  if x1 ≤ v2.1 then (ex (lp (fX7_laySteps_L56 o0 p2 x1) lpN (0, (q7_faceMany o0), (q7_isLaid o0), (q7_closed o0), (q7_faces o0), (q7_rankOf o0), (q7_placeOf o0), v2.2)))
  else (if v2.1 = p1 then (ck (okI v2.1 10) (some (.inl ((v2.1 + 1), (upd v2.2 (ix v2.1) 0)))))
  else (ck (okI v2.1 10) (some (.inl ((v2.1 + 1), (upd v2.2 (ix v2.1) (-1)))))))
def fX7_laySteps_J19 (o0 : OX7) (p1 : Int32) (p2 : Int32) (x1 : Int32) : Option (OX7) :=
  lp (fX7_laySteps_L23 o0 p1 p2 x1) lpN (0, (q7_steps o0))
def fX7_laySteps (o0 : OX7) (p1 : Int32) (p2 : Int32) : Option (OX7) :=
  if p2 = 0 then (fX7_laySteps_J19 o0 p1 p2 ((q7_now o0) (ix 0)))
  else (fX7_laySteps_J19 o0 p1 p2 ((q7_now o0) (ix 1)))
theorem myX7_laySteps : MYv yX7_laySteps cX7_laySteps 8 none 2 := ⟨mw_7_95, ms_79, mw_7_96, mw_1_9, ⟨by decide +kernel, by decide +kernel⟩, by decide +kernel⟩
set_option maxRecDepth 100000 in
set_option maxHeartbeats 4000000 in
theorem kX7_laySteps (l : Launch) (Z : GZ) (a0 a0_buffer a0_now a0_made a0_history a0_saved a0_closed a0_faces a0_rankOf a0_placeOf a0_counted a0_steps a0_onto a0_goes a0_firstImage : Nat) (o0 : OX7) (p1 : Int32) (p2 : Int32) (res : OX7) (h : fX7_laySteps o0 p1 p2 = some res) : MV l Z yX7_laySteps cX7_laySteps 8 6 136 [.ref a0, .int p1, .int p2] [(a0, .inr (7, [.int (q7_thrown o0), .ref a0_buffer, .int (q7_length o0), .int (q7_at o0), .int (q7_from o0), .int (q7_kind o0), .int (q7_number o0), .int (q7_wrong o0), .ref a0_now, .ref a0_made, .ref a0_history, .ref a0_saved, .int (q7_entries o0), .int (q7_isSaved o0), .ref a0_closed, .ref a0_faces, .ref a0_rankOf, .ref a0_placeOf, .int (q7_faceMany o0), .int (q7_isLaid o0), .ref a0_counted, .ref a0_steps, .ref a0_onto, .ref a0_goes, .int (q7_found o0), .int (q7_images o0), .ref a0_firstImage, .int (q7_gathered o0)])), (a0_now, .inl (zI Z, 12, .inl (q7_now o0))), (a0_closed, .inl (zI Z, 256, .inl (q7_closed o0))), (a0_faces, .inl (zI Z, 256, .inl (q7_faces o0))), (a0_rankOf, .inl (zI Z, 256, .inl (q7_rankOf o0))), (a0_placeOf, .inl (zI Z, 256, .inl (q7_placeOf o0))), (a0_steps, .inl (zI Z, 10, .inl (q7_steps o0)))] [(a0, .inr (7, [.int (q7_thrown o0), .ref a0_buffer, .int (q7_length o0), .int (q7_at o0), .int (q7_from o0), .int (q7_kind o0), .int (q7_number o0), .int (q7_wrong o0), .ref a0_now, .ref a0_made, .ref a0_history, .ref a0_saved, .int (q7_entries o0), .int (q7_isSaved o0), .ref a0_closed, .ref a0_faces, .ref a0_rankOf, .ref a0_placeOf, .int (q7_faceMany res), .int (q7_isLaid res), .ref a0_counted, .ref a0_steps, .ref a0_onto, .ref a0_goes, .int (q7_found o0), .int (q7_images o0), .ref a0_firstImage, .int (q7_gathered o0)])), (a0_now, .inl (zI Z, 12, .inl (q7_now o0))), (a0_closed, .inl (zI Z, 256, .inl (q7_closed res))), (a0_faces, .inl (zI Z, 256, .inl (q7_faces res))), (a0_rankOf, .inl (zI Z, 256, .inl (q7_rankOf res))), (a0_placeOf, .inl (zI Z, 256, .inl (q7_placeOf res))), (a0_steps, .inl (zI Z, 10, .inl (q7_steps res)))] := by
  refine MV_of (by decide +kernel) (Nat.le_of_ble_eq_true rfl) (fun {p e s m args below meth c} A R hR Q hQ C hr hlk => ?_)
  unfold fX7_laySteps at h
  refine g_lv [0, 1, 2] [(0, .ref a0), (1, .int p1), (2, .int p2)] rfl ?_
  refine g_iload_n C dX7_laySteps_0 rfl 2 rfl ?_
  have hj19 : ∀ (x1 : Int32), fX7_laySteps_J19 o0 p1 p2 x1 = some res → Gw p l e R s m args below meth c 8 Z A Q 0 0 19 [(0, .ref a0), (1, .int p1), (2, .int p2)] [.int x1] [(a0, .inr (7, [.int (q7_thrown o0), .ref a0_buffer, .int (q7_length o0), .int (q7_at o0), .int (q7_from o0), .int (q7_kind o0), .int (q7_number o0), .int (q7_wrong o0), .ref a0_now, .ref a0_made, .ref a0_history, .ref a0_saved, .int (q7_entries o0), .int (q7_isSaved o0), .ref a0_closed, .ref a0_faces, .ref a0_rankOf, .ref a0_placeOf, .int (q7_faceMany o0), .int (q7_isLaid o0), .ref a0_counted, .ref a0_steps, .ref a0_onto, .ref a0_goes, .int (q7_found o0), .int (q7_images o0), .ref a0_firstImage, .int (q7_gathered o0)])), (a0_now, .inl (zI Z, 12, .inl (q7_now o0))), (a0_closed, .inl (zI Z, 256, .inl (q7_closed o0))), (a0_faces, .inl (zI Z, 256, .inl (q7_faces o0))), (a0_rankOf, .inl (zI Z, 256, .inl (q7_rankOf o0))), (a0_placeOf, .inl (zI Z, 256, .inl (q7_placeOf o0))), (a0_steps, .inl (zI Z, 10, .inl (q7_steps o0)))] := by
    intro x1 h
    unfold fX7_laySteps_J19 at h
    refine g_istore_n C dX7_laySteps_19 rfl (by decide) [(3, .int x1), (0, .ref a0), (1, .int p1), (2, .int p2)] rfl ?_
    refine g_iconst C 0 dX7_laySteps_20 (by decide) ?_
    refine g_istore C dX7_laySteps_21 (by decide) [(4, .int 0), (3, .int x1), (0, .ref a0), (1, .int p1), (2, .int p2)] rfl ?_
    refine g_lv [2, 3, 4, 1, 0] [(0, .ref a0), (1, .int p1), (2, .int p2), (3, .int x1), (4, .int 0)] rfl ?_
    refine g_loop (lvf := fun v2 => [(0, .ref a0), (1, .int p1), (2, .int p2), (3, .int x1), (4, .int v2.1)]) (wsf := fun v2 => [(a0, .inr (7, [.int (q7_thrown o0), .ref a0_buffer, .int (q7_length o0), .int (q7_at o0), .int (q7_from o0), .int (q7_kind o0), .int (q7_number o0), .int (q7_wrong o0), .ref a0_now, .ref a0_made, .ref a0_history, .ref a0_saved, .int (q7_entries o0), .int (q7_isSaved o0), .ref a0_closed, .ref a0_faces, .ref a0_rankOf, .ref a0_placeOf, .int (q7_faceMany o0), .int (q7_isLaid o0), .ref a0_counted, .ref a0_steps, .ref a0_onto, .ref a0_goes, .int (q7_found o0), .int (q7_images o0), .ref a0_firstImage, .int (q7_gathered o0)])), (a0_now, .inl (zI Z, 12, .inl (q7_now o0))), (a0_closed, .inl (zI Z, 256, .inl (q7_closed o0))), (a0_faces, .inl (zI Z, 256, .inl (q7_faces o0))), (a0_rankOf, .inl (zI Z, 256, .inl (q7_rankOf o0))), (a0_placeOf, .inl (zI Z, 256, .inl (q7_placeOf o0))), (a0_steps, .inl (zI Z, 10, .inl v2.2))]) h (fun v2 y1 h hk1 hx1 => ?_)
    refine g_eq (lv1 := [(0, .ref a0), (1, .int p1), (2, .int p2), (3, .int x1), (4, .int v2.1)]) (st1 := []) (ws1 := [(a0, .inr (7, [.int (q7_thrown o0), .ref a0_buffer, .int (q7_length o0), .int (q7_at o0), .int (q7_from o0), .int (q7_kind o0), .int (q7_number o0), .int (q7_wrong o0), .ref a0_now, .ref a0_made, .ref a0_history, .ref a0_saved, .int (q7_entries o0), .int (q7_isSaved o0), .ref a0_closed, .ref a0_faces, .ref a0_rankOf, .ref a0_placeOf, .int (q7_faceMany o0), .int (q7_isLaid o0), .ref a0_counted, .ref a0_steps, .ref a0_onto, .ref a0_goes, .int (q7_found o0), .int (q7_images o0), .ref a0_firstImage, .int (q7_gathered o0)])), (a0_now, .inl (zI Z, 12, .inl (q7_now o0))), (a0_closed, .inl (zI Z, 256, .inl (q7_closed o0))), (a0_faces, .inl (zI Z, 256, .inl (q7_faces o0))), (a0_rankOf, .inl (zI Z, 256, .inl (q7_rankOf o0))), (a0_placeOf, .inl (zI Z, 256, .inl (q7_placeOf o0))), (a0_steps, .inl (zI Z, 10, .inl v2.2))]) rfl rfl rfl rfl ?_
    unfold fX7_laySteps_L23 at h
    refine g_iload C dX7_laySteps_23 4 rfl ?_
    refine g_iload_n C dX7_laySteps_25 rfl 3 rfl ?_
    refine g_icmp_ge C 53 dX7_laySteps_26 (by decide) (fun c3 => ?_) (fun c3 => ?_)
    · replace h := it_t c3 h
      obtain ⟨r4, h, hy⟩ := ex_of h
      rw [hx1 r4 hy] at h
      refine g_iconst C 0 dX7_laySteps_53 (by decide) ?_
      refine g_istore C dX7_laySteps_54 (by decide) [(4, .int 0), (0, .ref a0), (1, .int p1), (2, .int p2), (3, .int x1)] rfl ?_
      refine g_lv [1, 3, 4, 0] [(0, .ref a0), (2, .int p2), (3, .int x1), (4, .int 0)] rfl ?_
      refine g_loop (lvf := fun v5 => [(0, .ref a0), (2, .int p2), (3, .int x1), (4, .int v5.1)]) (wsf := fun v5 => [(a0, .inr (7, [.int (q7_thrown o0), .ref a0_buffer, .int (q7_length o0), .int (q7_at o0), .int (q7_from o0), .int (q7_kind o0), .int (q7_number o0), .int (q7_wrong o0), .ref a0_now, .ref a0_made, .ref a0_history, .ref a0_saved, .int (q7_entries o0), .int (q7_isSaved o0), .ref a0_closed, .ref a0_faces, .ref a0_rankOf, .ref a0_placeOf, .int v5.2.1, .int v5.2.2.1, .ref a0_counted, .ref a0_steps, .ref a0_onto, .ref a0_goes, .int (q7_found o0), .int (q7_images o0), .ref a0_firstImage, .int (q7_gathered o0)])), (a0_now, .inl (zI Z, 12, .inl (q7_now o0))), (a0_closed, .inl (zI Z, 256, .inl v5.2.2.2.1)), (a0_faces, .inl (zI Z, 256, .inl v5.2.2.2.2.1)), (a0_rankOf, .inl (zI Z, 256, .inl v5.2.2.2.2.2.1)), (a0_placeOf, .inl (zI Z, 256, .inl v5.2.2.2.2.2.2.1)), (a0_steps, .inl (zI Z, 10, .inl v5.2.2.2.2.2.2.2))]) h (fun v5 y1 h hk1 hx1 => ?_)
      refine g_eq (lv1 := [(0, .ref a0), (2, .int p2), (3, .int x1), (4, .int v5.1)]) (st1 := []) (ws1 := [(a0, .inr (7, [.int (q7_thrown o0), .ref a0_buffer, .int (q7_length o0), .int (q7_at o0), .int (q7_from o0), .int (q7_kind o0), .int (q7_number o0), .int (q7_wrong o0), .ref a0_now, .ref a0_made, .ref a0_history, .ref a0_saved, .int (q7_entries o0), .int (q7_isSaved o0), .ref a0_closed, .ref a0_faces, .ref a0_rankOf, .ref a0_placeOf, .int v5.2.1, .int v5.2.2.1, .ref a0_counted, .ref a0_steps, .ref a0_onto, .ref a0_goes, .int (q7_found o0), .int (q7_images o0), .ref a0_firstImage, .int (q7_gathered o0)])), (a0_now, .inl (zI Z, 12, .inl (q7_now o0))), (a0_closed, .inl (zI Z, 256, .inl v5.2.2.2.1)), (a0_faces, .inl (zI Z, 256, .inl v5.2.2.2.2.1)), (a0_rankOf, .inl (zI Z, 256, .inl v5.2.2.2.2.2.1)), (a0_placeOf, .inl (zI Z, 256, .inl v5.2.2.2.2.2.2.1)), (a0_steps, .inl (zI Z, 10, .inl v5.2.2.2.2.2.2.2))]) rfl rfl rfl rfl ?_
      unfold fX7_laySteps_L56 at h
      refine g_iload C dX7_laySteps_56 3 rfl ?_
      refine g_iload_n C dX7_laySteps_58 rfl 2 rfl ?_
      refine g_icmp_ge C 165 dX7_laySteps_59 (by decide) (fun c6 => ?_) (fun c6 => ?_)
      · replace h := it_t c6 h
        obtain ⟨r7, h, hy⟩ := ex_of h
        rw [hx1 r7 hy] at h
        obtain rfl := Option.some.inj h
        subst hQ
        exact g_vret C hr hlk dX7_laySteps_165 [0, 1, 2, 3, 4, 5, 6] rfl (by decide)
      · replace h := it_f c6 h
        refine g_iconst C 0 dX7_laySteps_62 (by decide) ?_
        refine g_istore C dX7_laySteps_63 (by decide) [(5, .int 0), (0, .ref a0), (2, .int p2), (3, .int x1), (4, .int v5.1)] rfl ?_
        refine g_lv [1, 2, 3, 4, 0] [(0, .ref a0), (2, .int p2), (3, .int x1), (4, .int v5.1), (5, .int 0)] rfl ?_
        refine g_loop (lvf := fun v8 => [(0, .ref a0), (2, .int p2), (3, .int x1), (4, .int v5.1), (5, .int v8.1)]) (wsf := fun v8 => [(a0, .inr (7, [.int (q7_thrown o0), .ref a0_buffer, .int (q7_length o0), .int (q7_at o0), .int (q7_from o0), .int (q7_kind o0), .int (q7_number o0), .int (q7_wrong o0), .ref a0_now, .ref a0_made, .ref a0_history, .ref a0_saved, .int (q7_entries o0), .int (q7_isSaved o0), .ref a0_closed, .ref a0_faces, .ref a0_rankOf, .ref a0_placeOf, .int v8.2.1, .int v8.2.2.1, .ref a0_counted, .ref a0_steps, .ref a0_onto, .ref a0_goes, .int (q7_found o0), .int (q7_images o0), .ref a0_firstImage, .int (q7_gathered o0)])), (a0_now, .inl (zI Z, 12, .inl (q7_now o0))), (a0_closed, .inl (zI Z, 256, .inl v8.2.2.2.1)), (a0_faces, .inl (zI Z, 256, .inl v8.2.2.2.2.1)), (a0_rankOf, .inl (zI Z, 256, .inl v8.2.2.2.2.2.1)), (a0_placeOf, .inl (zI Z, 256, .inl v8.2.2.2.2.2.2.1)), (a0_steps, .inl (zI Z, 10, .inl v8.2.2.2.2.2.2.2))]) h (fun v8 y2 h hk2 hx2 => ?_)
        refine g_eq (lv1 := [(0, .ref a0), (2, .int p2), (3, .int x1), (4, .int v5.1), (5, .int v8.1)]) (st1 := []) (ws1 := [(a0, .inr (7, [.int (q7_thrown o0), .ref a0_buffer, .int (q7_length o0), .int (q7_at o0), .int (q7_from o0), .int (q7_kind o0), .int (q7_number o0), .int (q7_wrong o0), .ref a0_now, .ref a0_made, .ref a0_history, .ref a0_saved, .int (q7_entries o0), .int (q7_isSaved o0), .ref a0_closed, .ref a0_faces, .ref a0_rankOf, .ref a0_placeOf, .int v8.2.1, .int v8.2.2.1, .ref a0_counted, .ref a0_steps, .ref a0_onto, .ref a0_goes, .int (q7_found o0), .int (q7_images o0), .ref a0_firstImage, .int (q7_gathered o0)])), (a0_now, .inl (zI Z, 12, .inl (q7_now o0))), (a0_closed, .inl (zI Z, 256, .inl v8.2.2.2.1)), (a0_faces, .inl (zI Z, 256, .inl v8.2.2.2.2.1)), (a0_rankOf, .inl (zI Z, 256, .inl v8.2.2.2.2.2.1)), (a0_placeOf, .inl (zI Z, 256, .inl v8.2.2.2.2.2.2.1)), (a0_steps, .inl (zI Z, 10, .inl v8.2.2.2.2.2.2.2))]) rfl rfl rfl rfl ?_
        unfold fX7_laySteps_L65 at h
        refine g_iload C dX7_laySteps_65 4 rfl ?_
        refine g_iload_n C dX7_laySteps_67 rfl 2 rfl ?_
        refine g_icmp_ge C 159 dX7_laySteps_68 (by decide) (fun c9 => ?_) (fun c9 => ?_)
        · replace h := it_t c9 h
          obtain ⟨r10, h, hy⟩ := ex_of h
          rw [hx2 r10 hy] at h
          refine g_iinc C (v5.1 + 1) dX7_laySteps_159 3 rfl rfl (by decide) [(4, .int (v5.1 + 1)), (0, .ref a0), (2, .int p2), (3, .int x1), (5, .int v8.1)] rfl ?_
          refine g_goto C 56 dX7_laySteps_162 (by decide) ?_
          refine g_lv [1, 2, 3, 0] [(0, .ref a0), (2, .int p2), (3, .int x1), (4, .int (v5.1 + 1))] rfl ?_
          exact hk1 ((v5.1 + 1), v8.2.1, v8.2.2.1, v8.2.2.2.1, v8.2.2.2.2.1, v8.2.2.2.2.2.1, v8.2.2.2.2.2.2.1, v8.2.2.2.2.2.2.2) (Option.some.inj h).symm
        · replace h := it_f c9 h
          refine g_aload_n C dX7_laySteps_71 rfl 0 rfl ?_
          refine g_get C 7 40 gin7 0 rfl rfl 21 (by decide) mw_5_106 rfl rfl dX7_laySteps_72 ?_
          refine g_iload C dX7_laySteps_75 4 rfl ?_
          obtain ⟨hi11, h⟩ := ck_of h
          refine g_iald C 6 rfl hi11 dX7_laySteps_77 ?_
          refine g_iload C dX7_laySteps_78 3 rfl ?_
          have hj94 : ∀ (x12 : Int32) (x13 : Int32) (x14 : Int32) (x15 : Nat → Int32) (x16 : Nat → Int32) (x17 : Nat → Int32) (x18 : Nat → Int32), fX7_laySteps_J94 x1 v5 v8 x12 x13 x14 x15 x16 x17 x18 = some y2 → Gw p l e R s m args below meth c 8 Z A Q 0 0 94 [(0, .ref a0), (2, .int p2), (3, .int x1), (4, .int v5.1), (5, .int v8.1)] [.int x12] [(a0, .inr (7, [.int (q7_thrown o0), .ref a0_buffer, .int (q7_length o0), .int (q7_at o0), .int (q7_from o0), .int (q7_kind o0), .int (q7_number o0), .int (q7_wrong o0), .ref a0_now, .ref a0_made, .ref a0_history, .ref a0_saved, .int (q7_entries o0), .int (q7_isSaved o0), .ref a0_closed, .ref a0_faces, .ref a0_rankOf, .ref a0_placeOf, .int x13, .int x14, .ref a0_counted, .ref a0_steps, .ref a0_onto, .ref a0_goes, .int (q7_found o0), .int (q7_images o0), .ref a0_firstImage, .int (q7_gathered o0)])), (a0_now, .inl (zI Z, 12, .inl (q7_now o0))), (a0_closed, .inl (zI Z, 256, .inl x15)), (a0_faces, .inl (zI Z, 256, .inl x16)), (a0_rankOf, .inl (zI Z, 256, .inl x17)), (a0_placeOf, .inl (zI Z, 256, .inl x18)), (a0_steps, .inl (zI Z, 10, .inl v8.2.2.2.2.2.2.2))] := by
            intro x12 x13 x14 x15 x16 x17 x18 h
            unfold fX7_laySteps_J94 at h
            refine g_istore C dX7_laySteps_94 (by decide) [(6, .int x12), (0, .ref a0), (2, .int p2), (3, .int x1), (4, .int v5.1), (5, .int v8.1)] rfl ?_
            refine g_iconst C 0 dX7_laySteps_96 (by decide) ?_
            refine g_istore C dX7_laySteps_97 (by decide) [(7, .int 0), (6, .int x12), (0, .ref a0), (2, .int p2), (3, .int x1), (4, .int v5.1), (5, .int v8.1)] rfl ?_
            refine g_lv [2, 3, 4, 5, 6, 1, 0] [(0, .ref a0), (2, .int p2), (3, .int x1), (4, .int v5.1), (5, .int v8.1), (6, .int x12), (7, .int 0)] rfl ?_
            refine g_loop (lvf := fun v19 => [(0, .ref a0), (2, .int p2), (3, .int x1), (4, .int v5.1), (5, .int v8.1), (6, .int x12), (7, .int v19.1)]) (wsf := fun v19 => [(a0, .inr (7, [.int (q7_thrown o0), .ref a0_buffer, .int (q7_length o0), .int (q7_at o0), .int (q7_from o0), .int (q7_kind o0), .int (q7_number o0), .int (q7_wrong o0), .ref a0_now, .ref a0_made, .ref a0_history, .ref a0_saved, .int (q7_entries o0), .int (q7_isSaved o0), .ref a0_closed, .ref a0_faces, .ref a0_rankOf, .ref a0_placeOf, .int x13, .int x14, .ref a0_counted, .ref a0_steps, .ref a0_onto, .ref a0_goes, .int (q7_found o0), .int (q7_images o0), .ref a0_firstImage, .int (q7_gathered o0)])), (a0_now, .inl (zI Z, 12, .inl (q7_now o0))), (a0_closed, .inl (zI Z, 256, .inl x15)), (a0_faces, .inl (zI Z, 256, .inl x16)), (a0_rankOf, .inl (zI Z, 256, .inl x17)), (a0_placeOf, .inl (zI Z, 256, .inl x18)), (a0_steps, .inl (zI Z, 10, .inl v19.2))]) h (fun v19 y3 h hk3 hx3 => ?_)
            refine g_eq (lv1 := [(0, .ref a0), (2, .int p2), (3, .int x1), (4, .int v5.1), (5, .int v8.1), (6, .int x12), (7, .int v19.1)]) (st1 := []) (ws1 := [(a0, .inr (7, [.int (q7_thrown o0), .ref a0_buffer, .int (q7_length o0), .int (q7_at o0), .int (q7_from o0), .int (q7_kind o0), .int (q7_number o0), .int (q7_wrong o0), .ref a0_now, .ref a0_made, .ref a0_history, .ref a0_saved, .int (q7_entries o0), .int (q7_isSaved o0), .ref a0_closed, .ref a0_faces, .ref a0_rankOf, .ref a0_placeOf, .int x13, .int x14, .ref a0_counted, .ref a0_steps, .ref a0_onto, .ref a0_goes, .int (q7_found o0), .int (q7_images o0), .ref a0_firstImage, .int (q7_gathered o0)])), (a0_now, .inl (zI Z, 12, .inl (q7_now o0))), (a0_closed, .inl (zI Z, 256, .inl x15)), (a0_faces, .inl (zI Z, 256, .inl x16)), (a0_rankOf, .inl (zI Z, 256, .inl x17)), (a0_placeOf, .inl (zI Z, 256, .inl x18)), (a0_steps, .inl (zI Z, 10, .inl v19.2))]) rfl rfl rfl rfl ?_
            unfold fX7_laySteps_L99 at h
            refine g_iload C dX7_laySteps_99 6 rfl ?_
            refine g_iload_n C dX7_laySteps_101 rfl 2 rfl ?_
            refine g_icmp_ge C 153 dX7_laySteps_102 (by decide) (fun c20 => ?_) (fun c20 => ?_)
            · replace h := it_t c20 h
              obtain ⟨r21, h, hy⟩ := ex_of h
              rw [hx3 r21 hy] at h
              refine g_iinc C (v8.1 + 1) dX7_laySteps_153 4 rfl rfl (by decide) [(5, .int (v8.1 + 1)), (0, .ref a0), (2, .int p2), (3, .int x1), (4, .int v5.1), (6, .int x12), (7, .int v19.1)] rfl ?_
              refine g_goto C 65 dX7_laySteps_156 (by decide) ?_
              refine g_lv [1, 2, 3, 4, 0] [(0, .ref a0), (2, .int p2), (3, .int x1), (4, .int v5.1), (5, .int (v8.1 + 1))] rfl ?_
              exact hk2 ((v8.1 + 1), x13, x14, x15, x16, x17, x18, v19.2) (Option.some.inj h).symm
            · replace h := it_f c20 h
              refine g_aload_n C dX7_laySteps_105 rfl 0 rfl ?_
              refine g_get C 7 40 gin7 0 rfl rfl 21 (by decide) mw_5_106 rfl rfl dX7_laySteps_106 ?_
              refine g_iload C dX7_laySteps_109 6 rfl ?_
              refine g_iload C dX7_laySteps_111 5 rfl ?_
              refine g_iload C dX7_laySteps_113 6 rfl ?_
              obtain ⟨r22, hr23, h⟩ := bd_of h
              refine g_callSi C (kX7_has l Z x12 v19.1 r22 hr23) myX7_has 165 mw_6_45 rfl [] [0, 1, 2, 3, 4, 5, 6] [0, 1, 2, 3, 4, 5, 6] (wr := [(a0, .inr (7, [.int (q7_thrown o0), .ref a0_buffer, .int (q7_length o0), .int (q7_at o0), .int (q7_from o0), .int (q7_kind o0), .int (q7_number o0), .int (q7_wrong o0), .ref a0_now, .ref a0_made, .ref a0_history, .ref a0_saved, .int (q7_entries o0), .int (q7_isSaved o0), .ref a0_closed, .ref a0_faces, .ref a0_rankOf, .ref a0_placeOf, .int x13, .int x14, .ref a0_counted, .ref a0_steps, .ref a0_onto, .ref a0_goes, .int (q7_found o0), .int (q7_images o0), .ref a0_firstImage, .int (q7_gathered o0)])), (a0_now, .inl (zI Z, 12, .inl (q7_now o0))), (a0_closed, .inl (zI Z, 256, .inl x15)), (a0_faces, .inl (zI Z, 256, .inl x16)), (a0_rankOf, .inl (zI Z, 256, .inl x17)), (a0_placeOf, .inl (zI Z, 256, .inl x18)), (a0_steps, .inl (zI Z, 10, .inl v19.2))]) rfl rfl (by decide) (by decide) (by decide) [(a0, .inr (7, [.int (q7_thrown o0), .ref a0_buffer, .int (q7_length o0), .int (q7_at o0), .int (q7_from o0), .int (q7_kind o0), .int (q7_number o0), .int (q7_wrong o0), .ref a0_now, .ref a0_made, .ref a0_history, .ref a0_saved, .int (q7_entries o0), .int (q7_isSaved o0), .ref a0_closed, .ref a0_faces, .ref a0_rankOf, .ref a0_placeOf, .int x13, .int x14, .ref a0_counted, .ref a0_steps, .ref a0_onto, .ref a0_goes, .int (q7_found o0), .int (q7_images o0), .ref a0_firstImage, .int (q7_gathered o0)])), (a0_now, .inl (zI Z, 12, .inl (q7_now o0))), (a0_closed, .inl (zI Z, 256, .inl x15)), (a0_faces, .inl (zI Z, 256, .inl x16)), (a0_rankOf, .inl (zI Z, 256, .inl x17)), (a0_placeOf, .inl (zI Z, 256, .inl x18)), (a0_steps, .inl (zI Z, 10, .inl v19.2))] rfl (by decide) (Nat.le_of_ble_eq_true rfl) (by rw [hR]; exact Nat.le_of_ble_eq_true rfl) (by rw [hR]; exact Nat.le_of_ble_eq_true rfl) ⟨by rw [hR]; exact Nat.le_of_ble_eq_true rfl, by rw [hR]; exact Nat.le_of_ble_eq_true rfl⟩ rfl dX7_laySteps_115 ?_
              refine g_if_eq C 139 dX7_laySteps_118 (by decide) (fun c24 => ?_) (fun c24 => ?_)
              · replace h := it_t c24 h
                refine g_aload_n C dX7_laySteps_139 rfl 0 rfl ?_
                refine g_get C 7 40 gin7 0 rfl rfl 21 (by decide) mw_5_106 rfl rfl dX7_laySteps_140 ?_
                refine g_iload C dX7_laySteps_143 6 rfl ?_
                obtain ⟨hi25, h⟩ := ck_of h
                refine g_iald C 6 rfl hi25 dX7_laySteps_145 ?_
                obtain ⟨hi26, h⟩ := ck_of h
                refine g_iast C 6 rfl hi26 [(a0, .inr (7, [.int (q7_thrown o0), .ref a0_buffer, .int (q7_length o0), .int (q7_at o0), .int (q7_from o0), .int (q7_kind o0), .int (q7_number o0), .int (q7_wrong o0), .ref a0_now, .ref a0_made, .ref a0_history, .ref a0_saved, .int (q7_entries o0), .int (q7_isSaved o0), .ref a0_closed, .ref a0_faces, .ref a0_rankOf, .ref a0_placeOf, .int x13, .int x14, .ref a0_counted, .ref a0_steps, .ref a0_onto, .ref a0_goes, .int (q7_found o0), .int (q7_images o0), .ref a0_firstImage, .int (q7_gathered o0)])), (a0_now, .inl (zI Z, 12, .inl (q7_now o0))), (a0_closed, .inl (zI Z, 256, .inl x15)), (a0_faces, .inl (zI Z, 256, .inl x16)), (a0_rankOf, .inl (zI Z, 256, .inl x17)), (a0_placeOf, .inl (zI Z, 256, .inl x18)), (a0_steps, .inl (zI Z, 10, .inl (upd v19.2 (ix v19.1) (v19.2 (ix v19.1)))))] rfl dX7_laySteps_146 ?_
                refine g_iinc C (v19.1 + 1) dX7_laySteps_147 6 rfl rfl (by decide) [(7, .int (v19.1 + 1)), (0, .ref a0), (2, .int p2), (3, .int x1), (4, .int v5.1), (5, .int v8.1), (6, .int x12)] rfl ?_
                refine g_goto C 99 dX7_laySteps_150 (by decide) ?_
                refine g_lv [1, 2, 3, 4, 5, 6, 0] [(0, .ref a0), (2, .int p2), (3, .int x1), (4, .int v5.1), (5, .int v8.1), (6, .int x12), (7, .int (v19.1 + 1))] rfl ?_
                exact hk3 ((v19.1 + 1), (upd v19.2 (ix v19.1) (v19.2 (ix v19.1)))) (Option.some.inj h).symm
              · replace h := it_f c24 h
                refine g_aload_n C dX7_laySteps_121 rfl 0 rfl ?_
                refine g_get C 7 40 gin7 0 rfl rfl 21 (by decide) mw_5_106 rfl rfl dX7_laySteps_122 ?_
                refine g_iload C dX7_laySteps_125 6 rfl ?_
                obtain ⟨hi27, h⟩ := ck_of h
                refine g_iald C 6 rfl hi27 dX7_laySteps_127 ?_
                refine g_iconst C (-1) dX7_laySteps_128 (by decide) ?_
                refine g_icmp_ne C 139 dX7_laySteps_129 (by decide) (fun c28 => ?_) (fun c28 => ?_)
                · replace h := it_f c28 h
                  refine g_aload_n C dX7_laySteps_139 rfl 0 rfl ?_
                  refine g_get C 7 40 gin7 0 rfl rfl 21 (by decide) mw_5_106 rfl rfl dX7_laySteps_140 ?_
                  refine g_iload C dX7_laySteps_143 6 rfl ?_
                  obtain ⟨hi29, h⟩ := ck_of h
                  refine g_iald C 6 rfl hi29 dX7_laySteps_145 ?_
                  obtain ⟨hi30, h⟩ := ck_of h
                  refine g_iast C 6 rfl hi30 [(a0, .inr (7, [.int (q7_thrown o0), .ref a0_buffer, .int (q7_length o0), .int (q7_at o0), .int (q7_from o0), .int (q7_kind o0), .int (q7_number o0), .int (q7_wrong o0), .ref a0_now, .ref a0_made, .ref a0_history, .ref a0_saved, .int (q7_entries o0), .int (q7_isSaved o0), .ref a0_closed, .ref a0_faces, .ref a0_rankOf, .ref a0_placeOf, .int x13, .int x14, .ref a0_counted, .ref a0_steps, .ref a0_onto, .ref a0_goes, .int (q7_found o0), .int (q7_images o0), .ref a0_firstImage, .int (q7_gathered o0)])), (a0_now, .inl (zI Z, 12, .inl (q7_now o0))), (a0_closed, .inl (zI Z, 256, .inl x15)), (a0_faces, .inl (zI Z, 256, .inl x16)), (a0_rankOf, .inl (zI Z, 256, .inl x17)), (a0_placeOf, .inl (zI Z, 256, .inl x18)), (a0_steps, .inl (zI Z, 10, .inl (upd v19.2 (ix v19.1) (v19.2 (ix v19.1)))))] rfl dX7_laySteps_146 ?_
                  refine g_iinc C (v19.1 + 1) dX7_laySteps_147 6 rfl rfl (by decide) [(7, .int (v19.1 + 1)), (0, .ref a0), (2, .int p2), (3, .int x1), (4, .int v5.1), (5, .int v8.1), (6, .int x12)] rfl ?_
                  refine g_goto C 99 dX7_laySteps_150 (by decide) ?_
                  refine g_lv [1, 2, 3, 4, 5, 6, 0] [(0, .ref a0), (2, .int p2), (3, .int x1), (4, .int v5.1), (5, .int v8.1), (6, .int x12), (7, .int (v19.1 + 1))] rfl ?_
                  exact hk3 ((v19.1 + 1), (upd v19.2 (ix v19.1) (v19.2 (ix v19.1)))) (Option.some.inj h).symm
                · replace h := it_t c28 h
                  refine g_iload C dX7_laySteps_132 3 rfl ?_
                  refine g_iconst C 1 dX7_laySteps_134 (by decide) ?_
                  refine g_iadd C dX7_laySteps_135 ?_
                  refine g_goto C 146 dX7_laySteps_136 (by decide) ?_
                  obtain ⟨hi31, h⟩ := ck_of h
                  refine g_iast C 6 rfl hi31 [(a0, .inr (7, [.int (q7_thrown o0), .ref a0_buffer, .int (q7_length o0), .int (q7_at o0), .int (q7_from o0), .int (q7_kind o0), .int (q7_number o0), .int (q7_wrong o0), .ref a0_now, .ref a0_made, .ref a0_history, .ref a0_saved, .int (q7_entries o0), .int (q7_isSaved o0), .ref a0_closed, .ref a0_faces, .ref a0_rankOf, .ref a0_placeOf, .int x13, .int x14, .ref a0_counted, .ref a0_steps, .ref a0_onto, .ref a0_goes, .int (q7_found o0), .int (q7_images o0), .ref a0_firstImage, .int (q7_gathered o0)])), (a0_now, .inl (zI Z, 12, .inl (q7_now o0))), (a0_closed, .inl (zI Z, 256, .inl x15)), (a0_faces, .inl (zI Z, 256, .inl x16)), (a0_rankOf, .inl (zI Z, 256, .inl x17)), (a0_placeOf, .inl (zI Z, 256, .inl x18)), (a0_steps, .inl (zI Z, 10, .inl (upd v19.2 (ix v19.1) (v5.1 + 1))))] rfl dX7_laySteps_146 ?_
                  refine g_iinc C (v19.1 + 1) dX7_laySteps_147 6 rfl rfl (by decide) [(7, .int (v19.1 + 1)), (0, .ref a0), (2, .int p2), (3, .int x1), (4, .int v5.1), (5, .int v8.1), (6, .int x12)] rfl ?_
                  refine g_goto C 99 dX7_laySteps_150 (by decide) ?_
                  refine g_lv [1, 2, 3, 4, 5, 6, 0] [(0, .ref a0), (2, .int p2), (3, .int x1), (4, .int v5.1), (5, .int v8.1), (6, .int x12), (7, .int (v19.1 + 1))] rfl ?_
                  exact hk3 ((v19.1 + 1), (upd v19.2 (ix v19.1) (v5.1 + 1))) (Option.some.inj h).symm
          refine g_icmp_ne C 93 dX7_laySteps_80 (by decide) (fun c32 => ?_) (fun c32 => ?_)
          · replace h := it_f c32 h
            refine g_iconst C 0 dX7_laySteps_93 (by decide) ?_
            exact hj94 0 v8.2.1 v8.2.2.1 v8.2.2.2.1 v8.2.2.2.2.1 v8.2.2.2.2.2.1 v8.2.2.2.2.2.2.1 h
          · replace h := it_t c32 h
            refine g_aload_n C dX7_laySteps_83 rfl 0 rfl ?_
            refine g_iload C dX7_laySteps_84 4 rfl ?_
            refine g_iload_n C dX7_laySteps_86 rfl 1 rfl ?_
            obtain ⟨r33, hr34, h⟩ := bd_of h
            refine g_callVi C (kX7_near l Z a0 a0_buffer a0_now a0_made a0_history a0_saved a0_closed a0_faces a0_rankOf a0_placeOf a0_counted a0_steps a0_onto a0_goes a0_firstImage (s7_steps (s7_isLaid (s7_faceMany (s7_placeOf (s7_rankOf (s7_faces (s7_closed o0 v8.2.2.2.1) v8.2.2.2.2.1) v8.2.2.2.2.2.1) v8.2.2.2.2.2.2.1) v8.2.1) v8.2.2.1) v8.2.2.2.2.2.2.2) v8.1 p2 r33 hr34) 0 rfl (ci := 7) rfl rfl myX7_near 290 mw_7_81 rfl [0, 1, 2, 3, 4, 5] [6] [1, 2, 3, 4, 5, 6, 0] (wr := [(a0_steps, .inl (zI Z, 10, .inl v8.2.2.2.2.2.2.2))]) rfl rfl (by decide) (by decide) (by decide) [(a0, .inr (7, [.int (q7_thrown o0), .ref a0_buffer, .int (q7_length o0), .int (q7_at o0), .int (q7_from o0), .int (q7_kind o0), .int (q7_number o0), .int (q7_wrong o0), .ref a0_now, .ref a0_made, .ref a0_history, .ref a0_saved, .int (q7_entries o0), .int (q7_isSaved o0), .ref a0_closed, .ref a0_faces, .ref a0_rankOf, .ref a0_placeOf, .int (q7_faceMany r33.2), .int (q7_isLaid r33.2), .ref a0_counted, .ref a0_steps, .ref a0_onto, .ref a0_goes, .int (q7_found o0), .int (q7_images o0), .ref a0_firstImage, .int (q7_gathered o0)])), (a0_now, .inl (zI Z, 12, .inl (q7_now o0))), (a0_closed, .inl (zI Z, 256, .inl (q7_closed r33.2))), (a0_faces, .inl (zI Z, 256, .inl (q7_faces r33.2))), (a0_rankOf, .inl (zI Z, 256, .inl (q7_rankOf r33.2))), (a0_placeOf, .inl (zI Z, 256, .inl (q7_placeOf r33.2))), (a0_steps, .inl (zI Z, 10, .inl v8.2.2.2.2.2.2.2))] rfl (by decide) (Nat.le_of_ble_eq_true rfl) (by rw [hR]; exact Nat.le_of_ble_eq_true rfl) (by rw [hR]; exact Nat.le_of_ble_eq_true rfl) ⟨by rw [hR]; exact Nat.le_of_ble_eq_true rfl, by rw [hR]; exact Nat.le_of_ble_eq_true rfl⟩ rfl dX7_laySteps_87 ?_
            refine g_goto C 94 dX7_laySteps_90 (by decide) ?_
            exact hj94 r33.1 (q7_faceMany r33.2) (q7_isLaid r33.2) (q7_closed r33.2) (q7_faces r33.2) (q7_rankOf r33.2) (q7_placeOf r33.2) h
    · replace h := it_f c3 h
      refine g_aload_n C dX7_laySteps_29 rfl 0 rfl ?_
      refine g_get C 7 40 gin7 0 rfl rfl 21 (by decide) mw_5_106 rfl rfl dX7_laySteps_30 ?_
      refine g_iload C dX7_laySteps_33 4 rfl ?_
      refine g_iload C dX7_laySteps_35 4 rfl ?_
      refine g_iload_n C dX7_laySteps_37 rfl 1 rfl ?_
      refine g_icmp_ne C 45 dX7_laySteps_38 (by decide) (fun c35 => ?_) (fun c35 => ?_)
      · replace h := it_f c35 h
        refine g_iconst C (-1) dX7_laySteps_45 (by decide) ?_
        obtain ⟨hi36, h⟩ := ck_of h
        refine g_iast C 6 rfl hi36 [(a0, .inr (7, [.int (q7_thrown o0), .ref a0_buffer, .int (q7_length o0), .int (q7_at o0), .int (q7_from o0), .int (q7_kind o0), .int (q7_number o0), .int (q7_wrong o0), .ref a0_now, .ref a0_made, .ref a0_history, .ref a0_saved, .int (q7_entries o0), .int (q7_isSaved o0), .ref a0_closed, .ref a0_faces, .ref a0_rankOf, .ref a0_placeOf, .int (q7_faceMany o0), .int (q7_isLaid o0), .ref a0_counted, .ref a0_steps, .ref a0_onto, .ref a0_goes, .int (q7_found o0), .int (q7_images o0), .ref a0_firstImage, .int (q7_gathered o0)])), (a0_now, .inl (zI Z, 12, .inl (q7_now o0))), (a0_closed, .inl (zI Z, 256, .inl (q7_closed o0))), (a0_faces, .inl (zI Z, 256, .inl (q7_faces o0))), (a0_rankOf, .inl (zI Z, 256, .inl (q7_rankOf o0))), (a0_placeOf, .inl (zI Z, 256, .inl (q7_placeOf o0))), (a0_steps, .inl (zI Z, 10, .inl (upd v2.2 (ix v2.1) (-1))))] rfl dX7_laySteps_46 ?_
        refine g_iinc C (v2.1 + 1) dX7_laySteps_47 4 rfl rfl (by decide) [(4, .int (v2.1 + 1)), (0, .ref a0), (1, .int p1), (2, .int p2), (3, .int x1)] rfl ?_
        refine g_goto C 23 dX7_laySteps_50 (by decide) ?_
        refine g_lv [1, 2, 3, 4, 0] [(0, .ref a0), (1, .int p1), (2, .int p2), (3, .int x1), (4, .int (v2.1 + 1))] rfl ?_
        have q9 := hk1 ((v2.1 + 1), (upd v2.2 (ix v2.1) (-1))) (Option.some.inj h).symm
        dsimp only at q9
        exact q9
      · replace h := it_t c35 h
        refine g_iconst C 0 dX7_laySteps_41 (by decide) ?_
        refine g_goto C 46 dX7_laySteps_42 (by decide) ?_
        obtain ⟨hi37, h⟩ := ck_of h
        refine g_iast C 6 rfl hi37 [(a0, .inr (7, [.int (q7_thrown o0), .ref a0_buffer, .int (q7_length o0), .int (q7_at o0), .int (q7_from o0), .int (q7_kind o0), .int (q7_number o0), .int (q7_wrong o0), .ref a0_now, .ref a0_made, .ref a0_history, .ref a0_saved, .int (q7_entries o0), .int (q7_isSaved o0), .ref a0_closed, .ref a0_faces, .ref a0_rankOf, .ref a0_placeOf, .int (q7_faceMany o0), .int (q7_isLaid o0), .ref a0_counted, .ref a0_steps, .ref a0_onto, .ref a0_goes, .int (q7_found o0), .int (q7_images o0), .ref a0_firstImage, .int (q7_gathered o0)])), (a0_now, .inl (zI Z, 12, .inl (q7_now o0))), (a0_closed, .inl (zI Z, 256, .inl (q7_closed o0))), (a0_faces, .inl (zI Z, 256, .inl (q7_faces o0))), (a0_rankOf, .inl (zI Z, 256, .inl (q7_rankOf o0))), (a0_placeOf, .inl (zI Z, 256, .inl (q7_placeOf o0))), (a0_steps, .inl (zI Z, 10, .inl (upd v2.2 (ix v2.1) 0)))] rfl dX7_laySteps_46 ?_
        refine g_iinc C (v2.1 + 1) dX7_laySteps_47 4 rfl rfl (by decide) [(4, .int (v2.1 + 1)), (0, .ref a0), (1, .int p1), (2, .int p2), (3, .int x1)] rfl ?_
        refine g_goto C 23 dX7_laySteps_50 (by decide) ?_
        refine g_lv [1, 2, 3, 4, 0] [(0, .ref a0), (1, .int p1), (2, .int p2), (3, .int x1), (4, .int (v2.1 + 1))] rfl ?_
        exact hk1 ((v2.1 + 1), (upd v2.2 (ix v2.1) 0)) (Option.some.inj h).symm
  refine g_if_eq C 13 dX7_laySteps_1 (by decide) (fun c38 => ?_) (fun c38 => ?_)
  · replace h := it_t c38 h
    refine g_aload_n C dX7_laySteps_13 rfl 0 rfl ?_
    refine g_get C 7 13 gin7 0 rfl rfl 8 (by decide) mw_5_93 rfl rfl dX7_laySteps_14 ?_
    refine g_iconst C 0 dX7_laySteps_17 (by decide) ?_
    refine g_iald C 1 rfl (by decide) dX7_laySteps_18 ?_
    exact hj19 ((q7_now o0) (ix 0)) h
  · replace h := it_f c38 h
    refine g_aload_n C dX7_laySteps_4 rfl 0 rfl ?_
    refine g_get C 7 13 gin7 0 rfl rfl 8 (by decide) mw_5_93 rfl rfl dX7_laySteps_5 ?_
    refine g_iconst C 1 dX7_laySteps_8 (by decide) ?_
    refine g_iald C 1 rfl (by decide) dX7_laySteps_9 ?_
    refine g_goto C 19 dX7_laySteps_10 (by decide) ?_
    exact hj19 ((q7_now o0) (ix 1)) h
def fX7_neighbours (o0 : OX7) (p1 : Int32) (p2 : Int32) : Option (Int32 × OX7) :=
  (fX7_isOne (s7_thrown o0 0) p1 p2).bind fun r1 =>
  ((fX7_fails (s7_thrown o0 0) r1 1).bind fun r3 =>
  (if r3.1 = 0 then ((fX7_near (s7_thrown o0 (q7_thrown r3.2)) p1 p2).bind fun r6 =>
  (some (r6.1, (s7_isLaid (s7_faceMany (s7_placeOf (s7_rankOf (s7_faces (s7_closed (s7_thrown o0 (q7_thrown r3.2)) (q7_closed r6.2)) (q7_faces r6.2)) (q7_rankOf r6.2)) (q7_placeOf r6.2)) (q7_faceMany r6.2)) (q7_isLaid r6.2)))))
  else (some (0, (s7_thrown o0 (q7_thrown r3.2))))))
theorem myX7_neighbours : MYv yX7_neighbours cX7_neighbours 3 (some .int) 2 := ⟨mw_7_74, mw_7_75, mw_7_76, mw_1_9, ⟨by decide +kernel, by decide +kernel⟩, by decide +kernel⟩
set_option maxRecDepth 100000 in
set_option maxHeartbeats 4000000 in
theorem kX7_neighbours (l : Launch) (Z : GZ) (a0 a0_buffer a0_now a0_made a0_history a0_saved a0_closed a0_faces a0_rankOf a0_placeOf a0_counted a0_steps a0_onto a0_goes a0_firstImage : Nat) (o0 : OX7) (p1 : Int32) (p2 : Int32) (res : Int32 × OX7) (h : fX7_neighbours o0 p1 p2 = some res) : MI l Z yX7_neighbours cX7_neighbours 3 .int 6 136 [.ref a0, .int p1, .int p2] [(a0, .inr (7, [.int (q7_thrown o0), .ref a0_buffer, .int (q7_length o0), .int (q7_at o0), .int (q7_from o0), .int (q7_kind o0), .int (q7_number o0), .int (q7_wrong o0), .ref a0_now, .ref a0_made, .ref a0_history, .ref a0_saved, .int (q7_entries o0), .int (q7_isSaved o0), .ref a0_closed, .ref a0_faces, .ref a0_rankOf, .ref a0_placeOf, .int (q7_faceMany o0), .int (q7_isLaid o0), .ref a0_counted, .ref a0_steps, .ref a0_onto, .ref a0_goes, .int (q7_found o0), .int (q7_images o0), .ref a0_firstImage, .int (q7_gathered o0)])), (a0_now, .inl (zI Z, 12, .inl (q7_now o0))), (a0_closed, .inl (zI Z, 256, .inl (q7_closed o0))), (a0_faces, .inl (zI Z, 256, .inl (q7_faces o0))), (a0_rankOf, .inl (zI Z, 256, .inl (q7_rankOf o0))), (a0_placeOf, .inl (zI Z, 256, .inl (q7_placeOf o0)))] res.1 [(a0, .inr (7, [.int (q7_thrown res.2), .ref a0_buffer, .int (q7_length o0), .int (q7_at o0), .int (q7_from o0), .int (q7_kind o0), .int (q7_number o0), .int (q7_wrong o0), .ref a0_now, .ref a0_made, .ref a0_history, .ref a0_saved, .int (q7_entries o0), .int (q7_isSaved o0), .ref a0_closed, .ref a0_faces, .ref a0_rankOf, .ref a0_placeOf, .int (q7_faceMany res.2), .int (q7_isLaid res.2), .ref a0_counted, .ref a0_steps, .ref a0_onto, .ref a0_goes, .int (q7_found o0), .int (q7_images o0), .ref a0_firstImage, .int (q7_gathered o0)])), (a0_now, .inl (zI Z, 12, .inl (q7_now o0))), (a0_closed, .inl (zI Z, 256, .inl (q7_closed res.2))), (a0_faces, .inl (zI Z, 256, .inl (q7_faces res.2))), (a0_rankOf, .inl (zI Z, 256, .inl (q7_rankOf res.2))), (a0_placeOf, .inl (zI Z, 256, .inl (q7_placeOf res.2)))] := by
  refine MI_of (by decide +kernel) (Nat.le_of_ble_eq_true rfl) (fun {p e s m args below meth c} A R hR Q hQ C hr hlk => ?_)
  unfold fX7_neighbours at h
  refine g_lv [0, 1, 2] [(0, .ref a0), (1, .int p1), (2, .int p2)] rfl ?_
  refine g_aload_n C dX7_neighbours_0 rfl 0 rfl ?_
  refine g_iconst C 0 dX7_neighbours_1 (by decide) ?_
  refine g_put C 7 52 gin7 tyX7 tyX7_ok nmX7 0 rfl rfl 0 (by decide) mw_5_85 rfl rfl (ty := .int) (by decide +kernel) rfl rfl (Nat.le_of_ble_eq_true rfl) [(a0, .inr (7, [.int 0, .ref a0_buffer, .int (q7_length o0), .int (q7_at o0), .int (q7_from o0), .int (q7_kind o0), .int (q7_number o0), .int (q7_wrong o0), .ref a0_now, .ref a0_made, .ref a0_history, .ref a0_saved, .int (q7_entries o0), .int (q7_isSaved o0), .ref a0_closed, .ref a0_faces, .ref a0_rankOf, .ref a0_placeOf, .int (q7_faceMany o0), .int (q7_isLaid o0), .ref a0_counted, .ref a0_steps, .ref a0_onto, .ref a0_goes, .int (q7_found o0), .int (q7_images o0), .ref a0_firstImage, .int (q7_gathered o0)])), (a0_now, .inl (zI Z, 12, .inl (q7_now o0))), (a0_closed, .inl (zI Z, 256, .inl (q7_closed o0))), (a0_faces, .inl (zI Z, 256, .inl (q7_faces o0))), (a0_rankOf, .inl (zI Z, 256, .inl (q7_rankOf o0))), (a0_placeOf, .inl (zI Z, 256, .inl (q7_placeOf o0)))] rfl dX7_neighbours_2 ?_
  refine g_aload_n C dX7_neighbours_5 rfl 0 rfl ?_
  refine g_aload_n C dX7_neighbours_6 rfl 0 rfl ?_
  refine g_iload_n C dX7_neighbours_7 rfl 1 rfl ?_
  refine g_iload_n C dX7_neighbours_8 rfl 2 rfl ?_
  obtain ⟨r1, hr2, h⟩ := bd_of h
  refine g_callVi C (kX7_isOne l Z a0 a0_buffer a0_now a0_made a0_history a0_saved a0_closed a0_faces a0_rankOf a0_placeOf a0_counted a0_steps a0_onto a0_goes a0_firstImage (s7_thrown o0 0) p1 p2 r1 hr2) 0 rfl (ci := 7) rfl rfl myX7_isOne 293 mw_7_77 rfl [0, 1] [2, 3, 4, 5] [4, 5, 0, 1, 2, 3] (wr := [(a0_closed, .inl (zI Z, 256, .inl (q7_closed o0))), (a0_faces, .inl (zI Z, 256, .inl (q7_faces o0))), (a0_rankOf, .inl (zI Z, 256, .inl (q7_rankOf o0))), (a0_placeOf, .inl (zI Z, 256, .inl (q7_placeOf o0)))]) rfl rfl (by decide) (by decide) (by decide) [(a0, .inr (7, [.int 0, .ref a0_buffer, .int (q7_length o0), .int (q7_at o0), .int (q7_from o0), .int (q7_kind o0), .int (q7_number o0), .int (q7_wrong o0), .ref a0_now, .ref a0_made, .ref a0_history, .ref a0_saved, .int (q7_entries o0), .int (q7_isSaved o0), .ref a0_closed, .ref a0_faces, .ref a0_rankOf, .ref a0_placeOf, .int (q7_faceMany o0), .int (q7_isLaid o0), .ref a0_counted, .ref a0_steps, .ref a0_onto, .ref a0_goes, .int (q7_found o0), .int (q7_images o0), .ref a0_firstImage, .int (q7_gathered o0)])), (a0_now, .inl (zI Z, 12, .inl (q7_now o0))), (a0_closed, .inl (zI Z, 256, .inl (q7_closed o0))), (a0_faces, .inl (zI Z, 256, .inl (q7_faces o0))), (a0_rankOf, .inl (zI Z, 256, .inl (q7_rankOf o0))), (a0_placeOf, .inl (zI Z, 256, .inl (q7_placeOf o0)))] rfl (by decide) (Nat.le_of_ble_eq_true rfl) (by rw [hR]; exact Nat.le_of_ble_eq_true rfl) (by rw [hR]; exact Nat.le_of_ble_eq_true rfl) ⟨by rw [hR]; exact Nat.le_of_ble_eq_true rfl, by rw [hR]; exact Nat.le_of_ble_eq_true rfl⟩ rfl dX7_neighbours_9 ?_
  refine g_iconst C 1 dX7_neighbours_12 (by decide) ?_
  obtain ⟨r3, hr4, h⟩ := bd_of h
  refine g_callVi C (kX7_fails l Z a0 a0_buffer a0_now a0_made a0_history a0_saved a0_closed a0_faces a0_rankOf a0_placeOf a0_counted a0_steps a0_onto a0_goes a0_firstImage (s7_thrown o0 0) r1 1 r3 hr4) 0 rfl (ci := 7) rfl rfl myX7_fails 63 mw_5_181 rfl [0] [1, 2, 3, 4, 5] [5, 0, 1, 2, 3, 4] (wr := [(a0_now, .inl (zI Z, 12, .inl (q7_now o0))), (a0_closed, .inl (zI Z, 256, .inl (q7_closed o0))), (a0_faces, .inl (zI Z, 256, .inl (q7_faces o0))), (a0_rankOf, .inl (zI Z, 256, .inl (q7_rankOf o0))), (a0_placeOf, .inl (zI Z, 256, .inl (q7_placeOf o0)))]) rfl rfl (by decide) (by decide) (by decide) [(a0, .inr (7, [.int (q7_thrown r3.2), .ref a0_buffer, .int (q7_length o0), .int (q7_at o0), .int (q7_from o0), .int (q7_kind o0), .int (q7_number o0), .int (q7_wrong o0), .ref a0_now, .ref a0_made, .ref a0_history, .ref a0_saved, .int (q7_entries o0), .int (q7_isSaved o0), .ref a0_closed, .ref a0_faces, .ref a0_rankOf, .ref a0_placeOf, .int (q7_faceMany o0), .int (q7_isLaid o0), .ref a0_counted, .ref a0_steps, .ref a0_onto, .ref a0_goes, .int (q7_found o0), .int (q7_images o0), .ref a0_firstImage, .int (q7_gathered o0)])), (a0_now, .inl (zI Z, 12, .inl (q7_now o0))), (a0_closed, .inl (zI Z, 256, .inl (q7_closed o0))), (a0_faces, .inl (zI Z, 256, .inl (q7_faces o0))), (a0_rankOf, .inl (zI Z, 256, .inl (q7_rankOf o0))), (a0_placeOf, .inl (zI Z, 256, .inl (q7_placeOf o0)))] rfl (by decide) (Nat.le_of_ble_eq_true rfl) (by rw [hR]; exact Nat.le_of_ble_eq_true rfl) (by rw [hR]; exact Nat.le_of_ble_eq_true rfl) ⟨by rw [hR]; exact Nat.le_of_ble_eq_true rfl, by rw [hR]; exact Nat.le_of_ble_eq_true rfl⟩ rfl dX7_neighbours_13 ?_
  refine g_if_eq C 23 dX7_neighbours_16 (by decide) (fun c5 => ?_) (fun c5 => ?_)
  · replace h := it_t c5 h
    refine g_aload_n C dX7_neighbours_23 rfl 0 rfl ?_
    refine g_iload_n C dX7_neighbours_24 rfl 1 rfl ?_
    refine g_iload_n C dX7_neighbours_25 rfl 2 rfl ?_
    obtain ⟨r6, hr7, h⟩ := bd_of h
    refine g_callVi C (kX7_near l Z a0 a0_buffer a0_now a0_made a0_history a0_saved a0_closed a0_faces a0_rankOf a0_placeOf a0_counted a0_steps a0_onto a0_goes a0_firstImage (s7_thrown o0 (q7_thrown r3.2)) p1 p2 r6 hr7) 0 rfl (ci := 7) rfl rfl myX7_near 290 mw_7_81 rfl [0, 1, 2, 3, 4, 5] [] [0, 1, 2, 3, 4, 5] (wr := []) rfl rfl (by decide) (by decide) (by decide) [(a0, .inr (7, [.int (q7_thrown r3.2), .ref a0_buffer, .int (q7_length o0), .int (q7_at o0), .int (q7_from o0), .int (q7_kind o0), .int (q7_number o0), .int (q7_wrong o0), .ref a0_now, .ref a0_made, .ref a0_history, .ref a0_saved, .int (q7_entries o0), .int (q7_isSaved o0), .ref a0_closed, .ref a0_faces, .ref a0_rankOf, .ref a0_placeOf, .int (q7_faceMany r6.2), .int (q7_isLaid r6.2), .ref a0_counted, .ref a0_steps, .ref a0_onto, .ref a0_goes, .int (q7_found o0), .int (q7_images o0), .ref a0_firstImage, .int (q7_gathered o0)])), (a0_now, .inl (zI Z, 12, .inl (q7_now o0))), (a0_closed, .inl (zI Z, 256, .inl (q7_closed r6.2))), (a0_faces, .inl (zI Z, 256, .inl (q7_faces r6.2))), (a0_rankOf, .inl (zI Z, 256, .inl (q7_rankOf r6.2))), (a0_placeOf, .inl (zI Z, 256, .inl (q7_placeOf r6.2)))] rfl (by decide) (Nat.le_of_ble_eq_true rfl) (by rw [hR]; exact Nat.le_of_ble_eq_true rfl) (by rw [hR]; exact Nat.le_of_ble_eq_true rfl) ⟨by rw [hR]; exact Nat.le_of_ble_eq_true rfl, by rw [hR]; exact Nat.le_of_ble_eq_true rfl⟩ rfl dX7_neighbours_26 ?_
    obtain rfl := Option.some.inj h
    subst hQ
    exact g_iret C rfl hr hlk dX7_neighbours_29 [0, 1, 2, 3, 4, 5] rfl (by decide)
  · replace h := it_f c5 h
    refine g_iconst C 0 dX7_neighbours_19 (by decide) ?_
    refine g_goto C 29 dX7_neighbours_20 (by decide) ?_
    obtain rfl := Option.some.inj h
    subst hQ
    exact g_iret C rfl hr hlk dX7_neighbours_29 [0, 1, 2, 3, 4, 5] rfl (by decide)
def fX7_distance_J29 (o0 : OX7) (p1 : Int32) (p2 : Int32) (p3 : Int32) (x3 : Int32) : Option (Int32 × OX7) :=
  (fX7_fails (s7_thrown o0 0) x3 1).bind fun r4 =>
  (if r4.1 = 0 then ((fX7_laySteps (s7_thrown o0 (q7_thrown r4.2)) p1 p3).bind fun r7 =>
  (ck (okI p2 10) (some (((q7_steps r7) (ix p2)), (s7_steps (s7_isLaid (s7_faceMany (s7_placeOf (s7_rankOf (s7_faces (s7_closed (s7_thrown o0 (q7_thrown r4.2)) (q7_closed r7)) (q7_faces r7)) (q7_rankOf r7)) (q7_placeOf r7)) (q7_faceMany r7)) (q7_isLaid r7)) (q7_steps r7))))))
  else (some (0, (s7_thrown o0 (q7_thrown r4.2)))))
def fX7_distance_J28 (o0 : OX7) (p1 : Int32) (p2 : Int32) (p3 : Int32) : Option (Int32 × OX7) :=
  fX7_distance_J29 o0 p1 p2 p3 0
def fX7_distance (o0 : OX7) (p1 : Int32) (p2 : Int32) (p3 : Int32) : Option (Int32 × OX7) :=
  (fX7_isOne (s7_thrown o0 0) p1 p3).bind fun r1 =>
  (if r1 = 0 then (fX7_distance_J28 o0 p1 p2 p3)
  else ((fX7_isOne (s7_thrown o0 0) p2 p3).bind fun r11 =>
  (if r11 = 0 then (fX7_distance_J28 o0 p1 p2 p3)
  else (fX7_distance_J29 o0 p1 p2 p3 1))))
theorem myX7_distance : MYv yX7_distance cX7_distance 4 (some .int) 3 := ⟨mw_7_90, mw_7_91, mw_7_92, mw_1_9, ⟨by decide +kernel, by decide +kernel⟩, by decide +kernel⟩
set_option maxRecDepth 100000 in
set_option maxHeartbeats 4000000 in
theorem kX7_distance (l : Launch) (Z : GZ) (a0 a0_buffer a0_now a0_made a0_history a0_saved a0_closed a0_faces a0_rankOf a0_placeOf a0_counted a0_steps a0_onto a0_goes a0_firstImage : Nat) (o0 : OX7) (p1 : Int32) (p2 : Int32) (p3 : Int32) (res : Int32 × OX7) (h : fX7_distance o0 p1 p2 p3 = some res) : MI l Z yX7_distance cX7_distance 4 .int 7 163 [.ref a0, .int p1, .int p2, .int p3] [(a0, .inr (7, [.int (q7_thrown o0), .ref a0_buffer, .int (q7_length o0), .int (q7_at o0), .int (q7_from o0), .int (q7_kind o0), .int (q7_number o0), .int (q7_wrong o0), .ref a0_now, .ref a0_made, .ref a0_history, .ref a0_saved, .int (q7_entries o0), .int (q7_isSaved o0), .ref a0_closed, .ref a0_faces, .ref a0_rankOf, .ref a0_placeOf, .int (q7_faceMany o0), .int (q7_isLaid o0), .ref a0_counted, .ref a0_steps, .ref a0_onto, .ref a0_goes, .int (q7_found o0), .int (q7_images o0), .ref a0_firstImage, .int (q7_gathered o0)])), (a0_now, .inl (zI Z, 12, .inl (q7_now o0))), (a0_closed, .inl (zI Z, 256, .inl (q7_closed o0))), (a0_faces, .inl (zI Z, 256, .inl (q7_faces o0))), (a0_rankOf, .inl (zI Z, 256, .inl (q7_rankOf o0))), (a0_placeOf, .inl (zI Z, 256, .inl (q7_placeOf o0))), (a0_steps, .inl (zI Z, 10, .inl (q7_steps o0)))] res.1 [(a0, .inr (7, [.int (q7_thrown res.2), .ref a0_buffer, .int (q7_length o0), .int (q7_at o0), .int (q7_from o0), .int (q7_kind o0), .int (q7_number o0), .int (q7_wrong o0), .ref a0_now, .ref a0_made, .ref a0_history, .ref a0_saved, .int (q7_entries o0), .int (q7_isSaved o0), .ref a0_closed, .ref a0_faces, .ref a0_rankOf, .ref a0_placeOf, .int (q7_faceMany res.2), .int (q7_isLaid res.2), .ref a0_counted, .ref a0_steps, .ref a0_onto, .ref a0_goes, .int (q7_found o0), .int (q7_images o0), .ref a0_firstImage, .int (q7_gathered o0)])), (a0_now, .inl (zI Z, 12, .inl (q7_now o0))), (a0_closed, .inl (zI Z, 256, .inl (q7_closed res.2))), (a0_faces, .inl (zI Z, 256, .inl (q7_faces res.2))), (a0_rankOf, .inl (zI Z, 256, .inl (q7_rankOf res.2))), (a0_placeOf, .inl (zI Z, 256, .inl (q7_placeOf res.2))), (a0_steps, .inl (zI Z, 10, .inl (q7_steps res.2)))] := by
  refine MI_of (by decide +kernel) (Nat.le_of_ble_eq_true rfl) (fun {p e s m args below meth c} A R hR Q hQ C hr hlk => ?_)
  unfold fX7_distance at h
  refine g_lv [0, 1, 2, 3] [(0, .ref a0), (1, .int p1), (2, .int p2), (3, .int p3)] rfl ?_
  refine g_aload_n C dX7_distance_0 rfl 0 rfl ?_
  refine g_iconst C 0 dX7_distance_1 (by decide) ?_
  refine g_put C 7 52 gin7 tyX7 tyX7_ok nmX7 0 rfl rfl 0 (by decide) mw_5_85 rfl rfl (ty := .int) (by decide +kernel) rfl rfl (Nat.le_of_ble_eq_true rfl) [(a0, .inr (7, [.int 0, .ref a0_buffer, .int (q7_length o0), .int (q7_at o0), .int (q7_from o0), .int (q7_kind o0), .int (q7_number o0), .int (q7_wrong o0), .ref a0_now, .ref a0_made, .ref a0_history, .ref a0_saved, .int (q7_entries o0), .int (q7_isSaved o0), .ref a0_closed, .ref a0_faces, .ref a0_rankOf, .ref a0_placeOf, .int (q7_faceMany o0), .int (q7_isLaid o0), .ref a0_counted, .ref a0_steps, .ref a0_onto, .ref a0_goes, .int (q7_found o0), .int (q7_images o0), .ref a0_firstImage, .int (q7_gathered o0)])), (a0_now, .inl (zI Z, 12, .inl (q7_now o0))), (a0_closed, .inl (zI Z, 256, .inl (q7_closed o0))), (a0_faces, .inl (zI Z, 256, .inl (q7_faces o0))), (a0_rankOf, .inl (zI Z, 256, .inl (q7_rankOf o0))), (a0_placeOf, .inl (zI Z, 256, .inl (q7_placeOf o0))), (a0_steps, .inl (zI Z, 10, .inl (q7_steps o0)))] rfl dX7_distance_2 ?_
  refine g_aload_n C dX7_distance_5 rfl 0 rfl ?_
  refine g_aload_n C dX7_distance_6 rfl 0 rfl ?_
  refine g_iload_n C dX7_distance_7 rfl 1 rfl ?_
  refine g_iload_n C dX7_distance_8 rfl 3 rfl ?_
  obtain ⟨r1, hr2, h⟩ := bd_of h
  refine g_callVi C (kX7_isOne l Z a0 a0_buffer a0_now a0_made a0_history a0_saved a0_closed a0_faces a0_rankOf a0_placeOf a0_counted a0_steps a0_onto a0_goes a0_firstImage (s7_thrown o0 0) p1 p3 r1 hr2) 0 rfl (ci := 7) rfl rfl myX7_isOne 293 mw_7_77 rfl [0, 1] [2, 3, 4, 5, 6] [5, 6, 0, 1, 2, 3, 4] (wr := [(a0_closed, .inl (zI Z, 256, .inl (q7_closed o0))), (a0_faces, .inl (zI Z, 256, .inl (q7_faces o0))), (a0_rankOf, .inl (zI Z, 256, .inl (q7_rankOf o0))), (a0_placeOf, .inl (zI Z, 256, .inl (q7_placeOf o0))), (a0_steps, .inl (zI Z, 10, .inl (q7_steps o0)))]) rfl rfl (by decide) (by decide) (by decide) [(a0, .inr (7, [.int 0, .ref a0_buffer, .int (q7_length o0), .int (q7_at o0), .int (q7_from o0), .int (q7_kind o0), .int (q7_number o0), .int (q7_wrong o0), .ref a0_now, .ref a0_made, .ref a0_history, .ref a0_saved, .int (q7_entries o0), .int (q7_isSaved o0), .ref a0_closed, .ref a0_faces, .ref a0_rankOf, .ref a0_placeOf, .int (q7_faceMany o0), .int (q7_isLaid o0), .ref a0_counted, .ref a0_steps, .ref a0_onto, .ref a0_goes, .int (q7_found o0), .int (q7_images o0), .ref a0_firstImage, .int (q7_gathered o0)])), (a0_now, .inl (zI Z, 12, .inl (q7_now o0))), (a0_closed, .inl (zI Z, 256, .inl (q7_closed o0))), (a0_faces, .inl (zI Z, 256, .inl (q7_faces o0))), (a0_rankOf, .inl (zI Z, 256, .inl (q7_rankOf o0))), (a0_placeOf, .inl (zI Z, 256, .inl (q7_placeOf o0))), (a0_steps, .inl (zI Z, 10, .inl (q7_steps o0)))] rfl (by decide) (Nat.le_of_ble_eq_true rfl) (by rw [hR]; exact Nat.le_of_ble_eq_true rfl) (by rw [hR]; exact Nat.le_of_ble_eq_true rfl) ⟨by rw [hR]; exact Nat.le_of_ble_eq_true rfl, by rw [hR]; exact Nat.le_of_ble_eq_true rfl⟩ rfl dX7_distance_9 ?_
  have hj29 : ∀ (x3 : Int32), fX7_distance_J29 o0 p1 p2 p3 x3 = some res → Gw p l e R s m args below meth c 4 Z A Q 0 0 29 [(0, .ref a0), (1, .int p1), (2, .int p2), (3, .int p3)] [.int x3, .ref a0] [(a0, .inr (7, [.int 0, .ref a0_buffer, .int (q7_length o0), .int (q7_at o0), .int (q7_from o0), .int (q7_kind o0), .int (q7_number o0), .int (q7_wrong o0), .ref a0_now, .ref a0_made, .ref a0_history, .ref a0_saved, .int (q7_entries o0), .int (q7_isSaved o0), .ref a0_closed, .ref a0_faces, .ref a0_rankOf, .ref a0_placeOf, .int (q7_faceMany o0), .int (q7_isLaid o0), .ref a0_counted, .ref a0_steps, .ref a0_onto, .ref a0_goes, .int (q7_found o0), .int (q7_images o0), .ref a0_firstImage, .int (q7_gathered o0)])), (a0_now, .inl (zI Z, 12, .inl (q7_now o0))), (a0_closed, .inl (zI Z, 256, .inl (q7_closed o0))), (a0_faces, .inl (zI Z, 256, .inl (q7_faces o0))), (a0_rankOf, .inl (zI Z, 256, .inl (q7_rankOf o0))), (a0_placeOf, .inl (zI Z, 256, .inl (q7_placeOf o0))), (a0_steps, .inl (zI Z, 10, .inl (q7_steps o0)))] := by
    intro x3 h
    unfold fX7_distance_J29 at h
    refine g_iconst C 1 dX7_distance_29 (by decide) ?_
    obtain ⟨r4, hr5, h⟩ := bd_of h
    refine g_callVi C (kX7_fails l Z a0 a0_buffer a0_now a0_made a0_history a0_saved a0_closed a0_faces a0_rankOf a0_placeOf a0_counted a0_steps a0_onto a0_goes a0_firstImage (s7_thrown o0 0) x3 1 r4 hr5) 0 rfl (ci := 7) rfl rfl myX7_fails 63 mw_5_181 rfl [0] [1, 2, 3, 4, 5, 6] [6, 0, 1, 2, 3, 4, 5] (wr := [(a0_now, .inl (zI Z, 12, .inl (q7_now o0))), (a0_closed, .inl (zI Z, 256, .inl (q7_closed o0))), (a0_faces, .inl (zI Z, 256, .inl (q7_faces o0))), (a0_rankOf, .inl (zI Z, 256, .inl (q7_rankOf o0))), (a0_placeOf, .inl (zI Z, 256, .inl (q7_placeOf o0))), (a0_steps, .inl (zI Z, 10, .inl (q7_steps o0)))]) rfl rfl (by decide) (by decide) (by decide) [(a0, .inr (7, [.int (q7_thrown r4.2), .ref a0_buffer, .int (q7_length o0), .int (q7_at o0), .int (q7_from o0), .int (q7_kind o0), .int (q7_number o0), .int (q7_wrong o0), .ref a0_now, .ref a0_made, .ref a0_history, .ref a0_saved, .int (q7_entries o0), .int (q7_isSaved o0), .ref a0_closed, .ref a0_faces, .ref a0_rankOf, .ref a0_placeOf, .int (q7_faceMany o0), .int (q7_isLaid o0), .ref a0_counted, .ref a0_steps, .ref a0_onto, .ref a0_goes, .int (q7_found o0), .int (q7_images o0), .ref a0_firstImage, .int (q7_gathered o0)])), (a0_now, .inl (zI Z, 12, .inl (q7_now o0))), (a0_closed, .inl (zI Z, 256, .inl (q7_closed o0))), (a0_faces, .inl (zI Z, 256, .inl (q7_faces o0))), (a0_rankOf, .inl (zI Z, 256, .inl (q7_rankOf o0))), (a0_placeOf, .inl (zI Z, 256, .inl (q7_placeOf o0))), (a0_steps, .inl (zI Z, 10, .inl (q7_steps o0)))] rfl (by decide) (Nat.le_of_ble_eq_true rfl) (by rw [hR]; exact Nat.le_of_ble_eq_true rfl) (by rw [hR]; exact Nat.le_of_ble_eq_true rfl) ⟨by rw [hR]; exact Nat.le_of_ble_eq_true rfl, by rw [hR]; exact Nat.le_of_ble_eq_true rfl⟩ rfl dX7_distance_30 ?_
    refine g_if_eq C 38 dX7_distance_33 (by decide) (fun c6 => ?_) (fun c6 => ?_)
    · replace h := it_t c6 h
      refine g_aload_n C dX7_distance_38 rfl 0 rfl ?_
      refine g_iload_n C dX7_distance_39 rfl 1 rfl ?_
      refine g_iload_n C dX7_distance_40 rfl 3 rfl ?_
      obtain ⟨r7, hr8, h⟩ := bd_of h
      refine g_callVv C (kX7_laySteps l Z a0 a0_buffer a0_now a0_made a0_history a0_saved a0_closed a0_faces a0_rankOf a0_placeOf a0_counted a0_steps a0_onto a0_goes a0_firstImage (s7_thrown o0 (q7_thrown r4.2)) p1 p3 r7 hr8) 0 rfl (ci := 7) rfl rfl myX7_laySteps 297 mw_7_93 rfl [0, 1, 2, 3, 4, 5, 6] [] [0, 1, 2, 3, 4, 5, 6] (wr := []) rfl rfl (by decide) (by decide) (by decide) [(a0, .inr (7, [.int (q7_thrown r4.2), .ref a0_buffer, .int (q7_length o0), .int (q7_at o0), .int (q7_from o0), .int (q7_kind o0), .int (q7_number o0), .int (q7_wrong o0), .ref a0_now, .ref a0_made, .ref a0_history, .ref a0_saved, .int (q7_entries o0), .int (q7_isSaved o0), .ref a0_closed, .ref a0_faces, .ref a0_rankOf, .ref a0_placeOf, .int (q7_faceMany r7), .int (q7_isLaid r7), .ref a0_counted, .ref a0_steps, .ref a0_onto, .ref a0_goes, .int (q7_found o0), .int (q7_images o0), .ref a0_firstImage, .int (q7_gathered o0)])), (a0_now, .inl (zI Z, 12, .inl (q7_now o0))), (a0_closed, .inl (zI Z, 256, .inl (q7_closed r7))), (a0_faces, .inl (zI Z, 256, .inl (q7_faces r7))), (a0_rankOf, .inl (zI Z, 256, .inl (q7_rankOf r7))), (a0_placeOf, .inl (zI Z, 256, .inl (q7_placeOf r7))), (a0_steps, .inl (zI Z, 10, .inl (q7_steps r7)))] rfl (by decide) (Nat.le_of_ble_eq_true rfl) (by rw [hR]; exact Nat.le_of_ble_eq_true rfl) (by rw [hR]; exact Nat.le_of_ble_eq_true rfl) ⟨by rw [hR]; exact Nat.le_of_ble_eq_true rfl, by rw [hR]; exact Nat.le_of_ble_eq_true rfl⟩ rfl dX7_distance_41 ?_
      refine g_aload_n C dX7_distance_44 rfl 0 rfl ?_
      refine g_get C 7 40 gin7 0 rfl rfl 21 (by decide) mw_5_106 rfl rfl dX7_distance_45 ?_
      refine g_iload_n C dX7_distance_48 rfl 2 rfl ?_
      obtain ⟨hi9, h⟩ := ck_of h
      refine g_iald C 6 rfl hi9 dX7_distance_49 ?_
      obtain rfl := Option.some.inj h
      subst hQ
      exact g_iret C rfl hr hlk dX7_distance_50 [0, 1, 2, 3, 4, 5, 6] rfl (by decide)
    · replace h := it_f c6 h
      refine g_iconst C 0 dX7_distance_36 (by decide) ?_
      obtain rfl := Option.some.inj h
      subst hQ
      exact g_iret C rfl hr hlk dX7_distance_37 [0, 1, 2, 3, 4, 5, 6] rfl (by decide)
  have hj28 : fX7_distance_J28 o0 p1 p2 p3 = some res → Gw p l e R s m args below meth c 4 Z A Q 0 0 28 [(0, .ref a0), (1, .int p1), (2, .int p2), (3, .int p3)] [.ref a0] [(a0, .inr (7, [.int 0, .ref a0_buffer, .int (q7_length o0), .int (q7_at o0), .int (q7_from o0), .int (q7_kind o0), .int (q7_number o0), .int (q7_wrong o0), .ref a0_now, .ref a0_made, .ref a0_history, .ref a0_saved, .int (q7_entries o0), .int (q7_isSaved o0), .ref a0_closed, .ref a0_faces, .ref a0_rankOf, .ref a0_placeOf, .int (q7_faceMany o0), .int (q7_isLaid o0), .ref a0_counted, .ref a0_steps, .ref a0_onto, .ref a0_goes, .int (q7_found o0), .int (q7_images o0), .ref a0_firstImage, .int (q7_gathered o0)])), (a0_now, .inl (zI Z, 12, .inl (q7_now o0))), (a0_closed, .inl (zI Z, 256, .inl (q7_closed o0))), (a0_faces, .inl (zI Z, 256, .inl (q7_faces o0))), (a0_rankOf, .inl (zI Z, 256, .inl (q7_rankOf o0))), (a0_placeOf, .inl (zI Z, 256, .inl (q7_placeOf o0))), (a0_steps, .inl (zI Z, 10, .inl (q7_steps o0)))] := by
    intro h
    unfold fX7_distance_J28 at h
    refine g_iconst C 0 dX7_distance_28 (by decide) ?_
    exact hj29 0 h
  refine g_if_eq C 28 dX7_distance_12 (by decide) (fun c10 => ?_) (fun c10 => ?_)
  · replace h := it_t c10 h
    exact hj28 h
  · replace h := it_f c10 h
    refine g_aload_n C dX7_distance_15 rfl 0 rfl ?_
    refine g_iload_n C dX7_distance_16 rfl 2 rfl ?_
    refine g_iload_n C dX7_distance_17 rfl 3 rfl ?_
    obtain ⟨r11, hr12, h⟩ := bd_of h
    refine g_callVi C (kX7_isOne l Z a0 a0_buffer a0_now a0_made a0_history a0_saved a0_closed a0_faces a0_rankOf a0_placeOf a0_counted a0_steps a0_onto a0_goes a0_firstImage (s7_thrown o0 0) p2 p3 r11 hr12) 0 rfl (ci := 7) rfl rfl myX7_isOne 293 mw_7_77 rfl [0, 1] [2, 3, 4, 5, 6] [5, 6, 0, 1, 2, 3, 4] (wr := [(a0_closed, .inl (zI Z, 256, .inl (q7_closed o0))), (a0_faces, .inl (zI Z, 256, .inl (q7_faces o0))), (a0_rankOf, .inl (zI Z, 256, .inl (q7_rankOf o0))), (a0_placeOf, .inl (zI Z, 256, .inl (q7_placeOf o0))), (a0_steps, .inl (zI Z, 10, .inl (q7_steps o0)))]) rfl rfl (by decide) (by decide) (by decide) [(a0, .inr (7, [.int 0, .ref a0_buffer, .int (q7_length o0), .int (q7_at o0), .int (q7_from o0), .int (q7_kind o0), .int (q7_number o0), .int (q7_wrong o0), .ref a0_now, .ref a0_made, .ref a0_history, .ref a0_saved, .int (q7_entries o0), .int (q7_isSaved o0), .ref a0_closed, .ref a0_faces, .ref a0_rankOf, .ref a0_placeOf, .int (q7_faceMany o0), .int (q7_isLaid o0), .ref a0_counted, .ref a0_steps, .ref a0_onto, .ref a0_goes, .int (q7_found o0), .int (q7_images o0), .ref a0_firstImage, .int (q7_gathered o0)])), (a0_now, .inl (zI Z, 12, .inl (q7_now o0))), (a0_closed, .inl (zI Z, 256, .inl (q7_closed o0))), (a0_faces, .inl (zI Z, 256, .inl (q7_faces o0))), (a0_rankOf, .inl (zI Z, 256, .inl (q7_rankOf o0))), (a0_placeOf, .inl (zI Z, 256, .inl (q7_placeOf o0))), (a0_steps, .inl (zI Z, 10, .inl (q7_steps o0)))] rfl (by decide) (Nat.le_of_ble_eq_true rfl) (by rw [hR]; exact Nat.le_of_ble_eq_true rfl) (by rw [hR]; exact Nat.le_of_ble_eq_true rfl) ⟨by rw [hR]; exact Nat.le_of_ble_eq_true rfl, by rw [hR]; exact Nat.le_of_ble_eq_true rfl⟩ rfl dX7_distance_18 ?_
    refine g_if_eq C 28 dX7_distance_21 (by decide) (fun c13 => ?_) (fun c13 => ?_)
    · replace h := it_t c13 h
      exact hj28 h
    · replace h := it_f c13 h
      refine g_iconst C 1 dX7_distance_24 (by decide) ?_
      refine g_goto C 29 dX7_distance_25 (by decide) ?_
      exact hj29 1 h
def fX7_step__L79 (o0 : OX7) (p1 : Int32) (r7 : OX7) (r11 : Int32 × OX7) (r14 : Int32 × OX7) (v16 : Int32) : Option ((Int32) ⊕ (Int32 × OX7)) :=
  (fX7_has r14.1 v16).bind fun r17 =>
  (if r17 = 0 then (some (.inl (v16 + 1)))
  else (ck (okI v16 10) (ck (okI p1 10) (if ((q7_steps r7) (ix v16)) = (((q7_steps r7) (ix p1)) - 1) then (ex (some (v16, (s7_steps (s7_isLaid (s7_faceMany (s7_placeOf (s7_rankOf (s7_faces (s7_closed (s7_thrown o0 (q7_thrown r11.2)) (q7_closed r14.2)) (q7_faces r14.2)) (q7_rankOf r14.2)) (q7_placeOf r14.2)) (q7_faceMany r14.2)) (q7_isLaid r14.2)) (q7_steps r7)))))
  else (some (.inl (v16 + 1)))))))
def fX7_step__J59 (o0 : OX7) (p1 : Int32) (p3 : Int32) (r4 : Int32 × OX7) (r7 : OX7) (x10 : Int32) : Option (Int32 × OX7) :=
  (fX7_fails (s7_steps (s7_isLaid (s7_faceMany (s7_placeOf (s7_rankOf (s7_faces (s7_closed (s7_thrown o0 (q7_thrown r4.2)) (q7_closed r7)) (q7_faces r7)) (q7_rankOf r7)) (q7_placeOf r7)) (q7_faceMany r7)) (q7_isLaid r7)) (q7_steps r7)) x10 2).bind fun r11 =>
  (if r11.1 = 0 then ((fX7_near (s7_steps (s7_isLaid (s7_faceMany (s7_placeOf (s7_rankOf (s7_faces (s7_closed (s7_thrown o0 (q7_thrown r11.2)) (q7_closed r7)) (q7_faces r7)) (q7_rankOf r7)) (q7_placeOf r7)) (q7_faceMany r7)) (q7_isLaid r7)) (q7_steps r7)) p1 p3).bind fun r14 =>
  (lp (fX7_step__L79 o0 p1 r7 r11 r14) lpN 0))
  else (some (0, (s7_steps (s7_isLaid (s7_faceMany (s7_placeOf (s7_rankOf (s7_faces (s7_closed (s7_thrown o0 (q7_thrown r11.2)) (q7_closed r7)) (q7_faces r7)) (q7_rankOf r7)) (q7_placeOf r7)) (q7_faceMany r7)) (q7_isLaid r7)) (q7_steps r7)))))
def fX7_step__J29 (o0 : OX7) (p1 : Int32) (p2 : Int32) (p3 : Int32) (x3 : Int32) : Option (Int32 × OX7) :=
  (fX7_fails (s7_thrown o0 0) x3 1).bind fun r4 =>
  (if r4.1 = 0 then ((fX7_laySteps (s7_thrown o0 (q7_thrown r4.2)) p2 p3).bind fun r7 =>
  (ck (okI p1 10) (if ((q7_steps r7) (ix p1)) ≤ 0 then (fX7_step__J59 o0 p1 p3 r4 r7 0)
  else (fX7_step__J59 o0 p1 p3 r4 r7 1))))
  else (some (0, (s7_thrown o0 (q7_thrown r4.2)))))
def fX7_step__J28 (o0 : OX7) (p1 : Int32) (p2 : Int32) (p3 : Int32) : Option (Int32 × OX7) :=
  fX7_step__J29 o0 p1 p2 p3 0
def fX7_step_ (o0 : OX7) (p1 : Int32) (p2 : Int32) (p3 : Int32) : Option (Int32 × OX7) :=
  (fX7_isOne (s7_thrown o0 0) p1 p3).bind fun r1 =>
  (if r1 = 0 then (fX7_step__J28 o0 p1 p2 p3)
  else ((fX7_isOne (s7_thrown o0 0) p2 p3).bind fun r26 =>
  (if r26 = 0 then (fX7_step__J28 o0 p1 p2 p3)
  else (fX7_step__J29 o0 p1 p2 p3 1))))
theorem myX7_step_ : MYv yX7_step_ cX7_step_ 6 (some .int) 3 := ⟨mw_7_98, mw_7_99, mw_7_100, mw_1_9, ⟨by decide +kernel, by decide +kernel⟩, by decide +kernel⟩
set_option maxRecDepth 100000 in
set_option maxHeartbeats 4000000 in
theorem kX7_step_ (l : Launch) (Z : GZ) (a0 a0_buffer a0_now a0_made a0_history a0_saved a0_closed a0_faces a0_rankOf a0_placeOf a0_counted a0_steps a0_onto a0_goes a0_firstImage : Nat) (o0 : OX7) (p1 : Int32) (p2 : Int32) (p3 : Int32) (res : Int32 × OX7) (h : fX7_step_ o0 p1 p2 p3 = some res) : MI l Z yX7_step_ cX7_step_ 6 .int 7 163 [.ref a0, .int p1, .int p2, .int p3] [(a0, .inr (7, [.int (q7_thrown o0), .ref a0_buffer, .int (q7_length o0), .int (q7_at o0), .int (q7_from o0), .int (q7_kind o0), .int (q7_number o0), .int (q7_wrong o0), .ref a0_now, .ref a0_made, .ref a0_history, .ref a0_saved, .int (q7_entries o0), .int (q7_isSaved o0), .ref a0_closed, .ref a0_faces, .ref a0_rankOf, .ref a0_placeOf, .int (q7_faceMany o0), .int (q7_isLaid o0), .ref a0_counted, .ref a0_steps, .ref a0_onto, .ref a0_goes, .int (q7_found o0), .int (q7_images o0), .ref a0_firstImage, .int (q7_gathered o0)])), (a0_now, .inl (zI Z, 12, .inl (q7_now o0))), (a0_closed, .inl (zI Z, 256, .inl (q7_closed o0))), (a0_faces, .inl (zI Z, 256, .inl (q7_faces o0))), (a0_rankOf, .inl (zI Z, 256, .inl (q7_rankOf o0))), (a0_placeOf, .inl (zI Z, 256, .inl (q7_placeOf o0))), (a0_steps, .inl (zI Z, 10, .inl (q7_steps o0)))] res.1 [(a0, .inr (7, [.int (q7_thrown res.2), .ref a0_buffer, .int (q7_length o0), .int (q7_at o0), .int (q7_from o0), .int (q7_kind o0), .int (q7_number o0), .int (q7_wrong o0), .ref a0_now, .ref a0_made, .ref a0_history, .ref a0_saved, .int (q7_entries o0), .int (q7_isSaved o0), .ref a0_closed, .ref a0_faces, .ref a0_rankOf, .ref a0_placeOf, .int (q7_faceMany res.2), .int (q7_isLaid res.2), .ref a0_counted, .ref a0_steps, .ref a0_onto, .ref a0_goes, .int (q7_found o0), .int (q7_images o0), .ref a0_firstImage, .int (q7_gathered o0)])), (a0_now, .inl (zI Z, 12, .inl (q7_now o0))), (a0_closed, .inl (zI Z, 256, .inl (q7_closed res.2))), (a0_faces, .inl (zI Z, 256, .inl (q7_faces res.2))), (a0_rankOf, .inl (zI Z, 256, .inl (q7_rankOf res.2))), (a0_placeOf, .inl (zI Z, 256, .inl (q7_placeOf res.2))), (a0_steps, .inl (zI Z, 10, .inl (q7_steps res.2)))] := by
  refine MI_of (by decide +kernel) (Nat.le_of_ble_eq_true rfl) (fun {p e s m args below meth c} A R hR Q hQ C hr hlk => ?_)
  unfold fX7_step_ at h
  refine g_lv [0, 1, 2, 3] [(0, .ref a0), (1, .int p1), (2, .int p2), (3, .int p3)] rfl ?_
  refine g_aload_n C dX7_step__0 rfl 0 rfl ?_
  refine g_iconst C 0 dX7_step__1 (by decide) ?_
  refine g_put C 7 52 gin7 tyX7 tyX7_ok nmX7 0 rfl rfl 0 (by decide) mw_5_85 rfl rfl (ty := .int) (by decide +kernel) rfl rfl (Nat.le_of_ble_eq_true rfl) [(a0, .inr (7, [.int 0, .ref a0_buffer, .int (q7_length o0), .int (q7_at o0), .int (q7_from o0), .int (q7_kind o0), .int (q7_number o0), .int (q7_wrong o0), .ref a0_now, .ref a0_made, .ref a0_history, .ref a0_saved, .int (q7_entries o0), .int (q7_isSaved o0), .ref a0_closed, .ref a0_faces, .ref a0_rankOf, .ref a0_placeOf, .int (q7_faceMany o0), .int (q7_isLaid o0), .ref a0_counted, .ref a0_steps, .ref a0_onto, .ref a0_goes, .int (q7_found o0), .int (q7_images o0), .ref a0_firstImage, .int (q7_gathered o0)])), (a0_now, .inl (zI Z, 12, .inl (q7_now o0))), (a0_closed, .inl (zI Z, 256, .inl (q7_closed o0))), (a0_faces, .inl (zI Z, 256, .inl (q7_faces o0))), (a0_rankOf, .inl (zI Z, 256, .inl (q7_rankOf o0))), (a0_placeOf, .inl (zI Z, 256, .inl (q7_placeOf o0))), (a0_steps, .inl (zI Z, 10, .inl (q7_steps o0)))] rfl dX7_step__2 ?_
  refine g_aload_n C dX7_step__5 rfl 0 rfl ?_
  refine g_aload_n C dX7_step__6 rfl 0 rfl ?_
  refine g_iload_n C dX7_step__7 rfl 1 rfl ?_
  refine g_iload_n C dX7_step__8 rfl 3 rfl ?_
  obtain ⟨r1, hr2, h⟩ := bd_of h
  refine g_callVi C (kX7_isOne l Z a0 a0_buffer a0_now a0_made a0_history a0_saved a0_closed a0_faces a0_rankOf a0_placeOf a0_counted a0_steps a0_onto a0_goes a0_firstImage (s7_thrown o0 0) p1 p3 r1 hr2) 0 rfl (ci := 7) rfl rfl myX7_isOne 293 mw_7_77 rfl [0, 1] [2, 3, 4, 5, 6] [5, 6, 0, 1, 2, 3, 4] (wr := [(a0_closed, .inl (zI Z, 256, .inl (q7_closed o0))), (a0_faces, .inl (zI Z, 256, .inl (q7_faces o0))), (a0_rankOf, .inl (zI Z, 256, .inl (q7_rankOf o0))), (a0_placeOf, .inl (zI Z, 256, .inl (q7_placeOf o0))), (a0_steps, .inl (zI Z, 10, .inl (q7_steps o0)))]) rfl rfl (by decide) (by decide) (by decide) [(a0, .inr (7, [.int 0, .ref a0_buffer, .int (q7_length o0), .int (q7_at o0), .int (q7_from o0), .int (q7_kind o0), .int (q7_number o0), .int (q7_wrong o0), .ref a0_now, .ref a0_made, .ref a0_history, .ref a0_saved, .int (q7_entries o0), .int (q7_isSaved o0), .ref a0_closed, .ref a0_faces, .ref a0_rankOf, .ref a0_placeOf, .int (q7_faceMany o0), .int (q7_isLaid o0), .ref a0_counted, .ref a0_steps, .ref a0_onto, .ref a0_goes, .int (q7_found o0), .int (q7_images o0), .ref a0_firstImage, .int (q7_gathered o0)])), (a0_now, .inl (zI Z, 12, .inl (q7_now o0))), (a0_closed, .inl (zI Z, 256, .inl (q7_closed o0))), (a0_faces, .inl (zI Z, 256, .inl (q7_faces o0))), (a0_rankOf, .inl (zI Z, 256, .inl (q7_rankOf o0))), (a0_placeOf, .inl (zI Z, 256, .inl (q7_placeOf o0))), (a0_steps, .inl (zI Z, 10, .inl (q7_steps o0)))] rfl (by decide) (Nat.le_of_ble_eq_true rfl) (by rw [hR]; exact Nat.le_of_ble_eq_true rfl) (by rw [hR]; exact Nat.le_of_ble_eq_true rfl) ⟨by rw [hR]; exact Nat.le_of_ble_eq_true rfl, by rw [hR]; exact Nat.le_of_ble_eq_true rfl⟩ rfl dX7_step__9 ?_
  have hj29 : ∀ (x3 : Int32), fX7_step__J29 o0 p1 p2 p3 x3 = some res → Gw p l e R s m args below meth c 6 Z A Q 0 0 29 [(0, .ref a0), (1, .int p1), (2, .int p2), (3, .int p3)] [.int x3, .ref a0] [(a0, .inr (7, [.int 0, .ref a0_buffer, .int (q7_length o0), .int (q7_at o0), .int (q7_from o0), .int (q7_kind o0), .int (q7_number o0), .int (q7_wrong o0), .ref a0_now, .ref a0_made, .ref a0_history, .ref a0_saved, .int (q7_entries o0), .int (q7_isSaved o0), .ref a0_closed, .ref a0_faces, .ref a0_rankOf, .ref a0_placeOf, .int (q7_faceMany o0), .int (q7_isLaid o0), .ref a0_counted, .ref a0_steps, .ref a0_onto, .ref a0_goes, .int (q7_found o0), .int (q7_images o0), .ref a0_firstImage, .int (q7_gathered o0)])), (a0_now, .inl (zI Z, 12, .inl (q7_now o0))), (a0_closed, .inl (zI Z, 256, .inl (q7_closed o0))), (a0_faces, .inl (zI Z, 256, .inl (q7_faces o0))), (a0_rankOf, .inl (zI Z, 256, .inl (q7_rankOf o0))), (a0_placeOf, .inl (zI Z, 256, .inl (q7_placeOf o0))), (a0_steps, .inl (zI Z, 10, .inl (q7_steps o0)))] := by
    intro x3 h
    unfold fX7_step__J29 at h
    refine g_iconst C 1 dX7_step__29 (by decide) ?_
    obtain ⟨r4, hr5, h⟩ := bd_of h
    refine g_callVi C (kX7_fails l Z a0 a0_buffer a0_now a0_made a0_history a0_saved a0_closed a0_faces a0_rankOf a0_placeOf a0_counted a0_steps a0_onto a0_goes a0_firstImage (s7_thrown o0 0) x3 1 r4 hr5) 0 rfl (ci := 7) rfl rfl myX7_fails 63 mw_5_181 rfl [0] [1, 2, 3, 4, 5, 6] [6, 0, 1, 2, 3, 4, 5] (wr := [(a0_now, .inl (zI Z, 12, .inl (q7_now o0))), (a0_closed, .inl (zI Z, 256, .inl (q7_closed o0))), (a0_faces, .inl (zI Z, 256, .inl (q7_faces o0))), (a0_rankOf, .inl (zI Z, 256, .inl (q7_rankOf o0))), (a0_placeOf, .inl (zI Z, 256, .inl (q7_placeOf o0))), (a0_steps, .inl (zI Z, 10, .inl (q7_steps o0)))]) rfl rfl (by decide) (by decide) (by decide) [(a0, .inr (7, [.int (q7_thrown r4.2), .ref a0_buffer, .int (q7_length o0), .int (q7_at o0), .int (q7_from o0), .int (q7_kind o0), .int (q7_number o0), .int (q7_wrong o0), .ref a0_now, .ref a0_made, .ref a0_history, .ref a0_saved, .int (q7_entries o0), .int (q7_isSaved o0), .ref a0_closed, .ref a0_faces, .ref a0_rankOf, .ref a0_placeOf, .int (q7_faceMany o0), .int (q7_isLaid o0), .ref a0_counted, .ref a0_steps, .ref a0_onto, .ref a0_goes, .int (q7_found o0), .int (q7_images o0), .ref a0_firstImage, .int (q7_gathered o0)])), (a0_now, .inl (zI Z, 12, .inl (q7_now o0))), (a0_closed, .inl (zI Z, 256, .inl (q7_closed o0))), (a0_faces, .inl (zI Z, 256, .inl (q7_faces o0))), (a0_rankOf, .inl (zI Z, 256, .inl (q7_rankOf o0))), (a0_placeOf, .inl (zI Z, 256, .inl (q7_placeOf o0))), (a0_steps, .inl (zI Z, 10, .inl (q7_steps o0)))] rfl (by decide) (Nat.le_of_ble_eq_true rfl) (by rw [hR]; exact Nat.le_of_ble_eq_true rfl) (by rw [hR]; exact Nat.le_of_ble_eq_true rfl) ⟨by rw [hR]; exact Nat.le_of_ble_eq_true rfl, by rw [hR]; exact Nat.le_of_ble_eq_true rfl⟩ rfl dX7_step__30 ?_
    refine g_if_eq C 38 dX7_step__33 (by decide) (fun c6 => ?_) (fun c6 => ?_)
    · replace h := it_t c6 h
      refine g_aload_n C dX7_step__38 rfl 0 rfl ?_
      refine g_iload_n C dX7_step__39 rfl 2 rfl ?_
      refine g_iload_n C dX7_step__40 rfl 3 rfl ?_
      obtain ⟨r7, hr8, h⟩ := bd_of h
      refine g_callVv C (kX7_laySteps l Z a0 a0_buffer a0_now a0_made a0_history a0_saved a0_closed a0_faces a0_rankOf a0_placeOf a0_counted a0_steps a0_onto a0_goes a0_firstImage (s7_thrown o0 (q7_thrown r4.2)) p2 p3 r7 hr8) 0 rfl (ci := 7) rfl rfl myX7_laySteps 297 mw_7_93 rfl [0, 1, 2, 3, 4, 5, 6] [] [0, 1, 2, 3, 4, 5, 6] (wr := []) rfl rfl (by decide) (by decide) (by decide) [(a0, .inr (7, [.int (q7_thrown r4.2), .ref a0_buffer, .int (q7_length o0), .int (q7_at o0), .int (q7_from o0), .int (q7_kind o0), .int (q7_number o0), .int (q7_wrong o0), .ref a0_now, .ref a0_made, .ref a0_history, .ref a0_saved, .int (q7_entries o0), .int (q7_isSaved o0), .ref a0_closed, .ref a0_faces, .ref a0_rankOf, .ref a0_placeOf, .int (q7_faceMany r7), .int (q7_isLaid r7), .ref a0_counted, .ref a0_steps, .ref a0_onto, .ref a0_goes, .int (q7_found o0), .int (q7_images o0), .ref a0_firstImage, .int (q7_gathered o0)])), (a0_now, .inl (zI Z, 12, .inl (q7_now o0))), (a0_closed, .inl (zI Z, 256, .inl (q7_closed r7))), (a0_faces, .inl (zI Z, 256, .inl (q7_faces r7))), (a0_rankOf, .inl (zI Z, 256, .inl (q7_rankOf r7))), (a0_placeOf, .inl (zI Z, 256, .inl (q7_placeOf r7))), (a0_steps, .inl (zI Z, 10, .inl (q7_steps r7)))] rfl (by decide) (Nat.le_of_ble_eq_true rfl) (by rw [hR]; exact Nat.le_of_ble_eq_true rfl) (by rw [hR]; exact Nat.le_of_ble_eq_true rfl) ⟨by rw [hR]; exact Nat.le_of_ble_eq_true rfl, by rw [hR]; exact Nat.le_of_ble_eq_true rfl⟩ rfl dX7_step__41 ?_
      refine g_aload_n C dX7_step__44 rfl 0 rfl ?_
      refine g_aload_n C dX7_step__45 rfl 0 rfl ?_
      refine g_get C 7 40 gin7 0 rfl rfl 21 (by decide) mw_5_106 rfl rfl dX7_step__46 ?_
      refine g_iload_n C dX7_step__49 rfl 1 rfl ?_
      obtain ⟨hi9, h⟩ := ck_of h
      refine g_iald C 6 rfl hi9 dX7_step__50 ?_
      have hj59 : ∀ (x10 : Int32), fX7_step__J59 o0 p1 p3 r4 r7 x10 = some res → Gw p l e R s m args below meth c 6 Z A Q 0 0 59 [(0, .ref a0), (1, .int p1), (3, .int p3)] [.int x10, .ref a0] [(a0, .inr (7, [.int (q7_thrown r4.2), .ref a0_buffer, .int (q7_length o0), .int (q7_at o0), .int (q7_from o0), .int (q7_kind o0), .int (q7_number o0), .int (q7_wrong o0), .ref a0_now, .ref a0_made, .ref a0_history, .ref a0_saved, .int (q7_entries o0), .int (q7_isSaved o0), .ref a0_closed, .ref a0_faces, .ref a0_rankOf, .ref a0_placeOf, .int (q7_faceMany r7), .int (q7_isLaid r7), .ref a0_counted, .ref a0_steps, .ref a0_onto, .ref a0_goes, .int (q7_found o0), .int (q7_images o0), .ref a0_firstImage, .int (q7_gathered o0)])), (a0_now, .inl (zI Z, 12, .inl (q7_now o0))), (a0_closed, .inl (zI Z, 256, .inl (q7_closed r7))), (a0_faces, .inl (zI Z, 256, .inl (q7_faces r7))), (a0_rankOf, .inl (zI Z, 256, .inl (q7_rankOf r7))), (a0_placeOf, .inl (zI Z, 256, .inl (q7_placeOf r7))), (a0_steps, .inl (zI Z, 10, .inl (q7_steps r7)))] := by
        intro x10 h
        unfold fX7_step__J59 at h
        refine g_iconst C 2 dX7_step__59 (by decide) ?_
        obtain ⟨r11, hr12, h⟩ := bd_of h
        refine g_callVi C (kX7_fails l Z a0 a0_buffer a0_now a0_made a0_history a0_saved a0_closed a0_faces a0_rankOf a0_placeOf a0_counted a0_steps a0_onto a0_goes a0_firstImage (s7_steps (s7_isLaid (s7_faceMany (s7_placeOf (s7_rankOf (s7_faces (s7_closed (s7_thrown o0 (q7_thrown r4.2)) (q7_closed r7)) (q7_faces r7)) (q7_rankOf r7)) (q7_placeOf r7)) (q7_faceMany r7)) (q7_isLaid r7)) (q7_steps r7)) x10 2 r11 hr12) 0 rfl (ci := 7) rfl rfl myX7_fails 63 mw_5_181 rfl [0] [1, 2, 3, 4, 5, 6] [6, 0, 1, 2, 3, 4, 5] (wr := [(a0_now, .inl (zI Z, 12, .inl (q7_now o0))), (a0_closed, .inl (zI Z, 256, .inl (q7_closed r7))), (a0_faces, .inl (zI Z, 256, .inl (q7_faces r7))), (a0_rankOf, .inl (zI Z, 256, .inl (q7_rankOf r7))), (a0_placeOf, .inl (zI Z, 256, .inl (q7_placeOf r7))), (a0_steps, .inl (zI Z, 10, .inl (q7_steps r7)))]) rfl rfl (by decide) (by decide) (by decide) [(a0, .inr (7, [.int (q7_thrown r11.2), .ref a0_buffer, .int (q7_length o0), .int (q7_at o0), .int (q7_from o0), .int (q7_kind o0), .int (q7_number o0), .int (q7_wrong o0), .ref a0_now, .ref a0_made, .ref a0_history, .ref a0_saved, .int (q7_entries o0), .int (q7_isSaved o0), .ref a0_closed, .ref a0_faces, .ref a0_rankOf, .ref a0_placeOf, .int (q7_faceMany r7), .int (q7_isLaid r7), .ref a0_counted, .ref a0_steps, .ref a0_onto, .ref a0_goes, .int (q7_found o0), .int (q7_images o0), .ref a0_firstImage, .int (q7_gathered o0)])), (a0_now, .inl (zI Z, 12, .inl (q7_now o0))), (a0_closed, .inl (zI Z, 256, .inl (q7_closed r7))), (a0_faces, .inl (zI Z, 256, .inl (q7_faces r7))), (a0_rankOf, .inl (zI Z, 256, .inl (q7_rankOf r7))), (a0_placeOf, .inl (zI Z, 256, .inl (q7_placeOf r7))), (a0_steps, .inl (zI Z, 10, .inl (q7_steps r7)))] rfl (by decide) (Nat.le_of_ble_eq_true rfl) (by rw [hR]; exact Nat.le_of_ble_eq_true rfl) (by rw [hR]; exact Nat.le_of_ble_eq_true rfl) ⟨by rw [hR]; exact Nat.le_of_ble_eq_true rfl, by rw [hR]; exact Nat.le_of_ble_eq_true rfl⟩ rfl dX7_step__60 ?_
        refine g_if_eq C 68 dX7_step__63 (by decide) (fun c13 => ?_) (fun c13 => ?_)
        · replace h := it_t c13 h
          refine g_aload_n C dX7_step__68 rfl 0 rfl ?_
          refine g_iload_n C dX7_step__69 rfl 1 rfl ?_
          refine g_iload_n C dX7_step__70 rfl 2 rfl ?_
          obtain ⟨r14, hr15, h⟩ := bd_of h
          refine g_callVi C (kX7_near l Z a0 a0_buffer a0_now a0_made a0_history a0_saved a0_closed a0_faces a0_rankOf a0_placeOf a0_counted a0_steps a0_onto a0_goes a0_firstImage (s7_steps (s7_isLaid (s7_faceMany (s7_placeOf (s7_rankOf (s7_faces (s7_closed (s7_thrown o0 (q7_thrown r11.2)) (q7_closed r7)) (q7_faces r7)) (q7_rankOf r7)) (q7_placeOf r7)) (q7_faceMany r7)) (q7_isLaid r7)) (q7_steps r7)) p1 p3 r14 hr15) 0 rfl (ci := 7) rfl rfl myX7_near 290 mw_7_81 rfl [0, 1, 2, 3, 4, 5] [6] [1, 2, 3, 4, 5, 6, 0] (wr := [(a0_steps, .inl (zI Z, 10, .inl (q7_steps r7)))]) rfl rfl (by decide) (by decide) (by decide) [(a0, .inr (7, [.int (q7_thrown r11.2), .ref a0_buffer, .int (q7_length o0), .int (q7_at o0), .int (q7_from o0), .int (q7_kind o0), .int (q7_number o0), .int (q7_wrong o0), .ref a0_now, .ref a0_made, .ref a0_history, .ref a0_saved, .int (q7_entries o0), .int (q7_isSaved o0), .ref a0_closed, .ref a0_faces, .ref a0_rankOf, .ref a0_placeOf, .int (q7_faceMany r14.2), .int (q7_isLaid r14.2), .ref a0_counted, .ref a0_steps, .ref a0_onto, .ref a0_goes, .int (q7_found o0), .int (q7_images o0), .ref a0_firstImage, .int (q7_gathered o0)])), (a0_now, .inl (zI Z, 12, .inl (q7_now o0))), (a0_closed, .inl (zI Z, 256, .inl (q7_closed r14.2))), (a0_faces, .inl (zI Z, 256, .inl (q7_faces r14.2))), (a0_rankOf, .inl (zI Z, 256, .inl (q7_rankOf r14.2))), (a0_placeOf, .inl (zI Z, 256, .inl (q7_placeOf r14.2))), (a0_steps, .inl (zI Z, 10, .inl (q7_steps r7)))] rfl (by decide) (Nat.le_of_ble_eq_true rfl) (by rw [hR]; exact Nat.le_of_ble_eq_true rfl) (by rw [hR]; exact Nat.le_of_ble_eq_true rfl) ⟨by rw [hR]; exact Nat.le_of_ble_eq_true rfl, by rw [hR]; exact Nat.le_of_ble_eq_true rfl⟩ rfl dX7_step__71 ?_
          refine g_istore C dX7_step__74 (by decide) [(4, .int r14.1), (0, .ref a0), (1, .int p1), (3, .int p3)] rfl ?_
          refine g_iconst C 0 dX7_step__76 (by decide) ?_
          refine g_istore C dX7_step__77 (by decide) [(5, .int 0), (4, .int r14.1), (0, .ref a0), (1, .int p1), (3, .int p3)] rfl ?_
          refine g_lv [2, 3, 1, 0] [(0, .ref a0), (1, .int p1), (4, .int r14.1), (5, .int 0)] rfl ?_
          refine g_loop (lvf := fun v16 => [(0, .ref a0), (1, .int p1), (4, .int r14.1), (5, .int v16)]) (wsf := fun v16 => [(a0, .inr (7, [.int (q7_thrown r11.2), .ref a0_buffer, .int (q7_length o0), .int (q7_at o0), .int (q7_from o0), .int (q7_kind o0), .int (q7_number o0), .int (q7_wrong o0), .ref a0_now, .ref a0_made, .ref a0_history, .ref a0_saved, .int (q7_entries o0), .int (q7_isSaved o0), .ref a0_closed, .ref a0_faces, .ref a0_rankOf, .ref a0_placeOf, .int (q7_faceMany r14.2), .int (q7_isLaid r14.2), .ref a0_counted, .ref a0_steps, .ref a0_onto, .ref a0_goes, .int (q7_found o0), .int (q7_images o0), .ref a0_firstImage, .int (q7_gathered o0)])), (a0_now, .inl (zI Z, 12, .inl (q7_now o0))), (a0_closed, .inl (zI Z, 256, .inl (q7_closed r14.2))), (a0_faces, .inl (zI Z, 256, .inl (q7_faces r14.2))), (a0_rankOf, .inl (zI Z, 256, .inl (q7_rankOf r14.2))), (a0_placeOf, .inl (zI Z, 256, .inl (q7_placeOf r14.2))), (a0_steps, .inl (zI Z, 10, .inl (q7_steps r7)))]) h (fun v16 y1 h hk1 hx1 => ?_)
          refine g_eq (lv1 := [(0, .ref a0), (1, .int p1), (4, .int r14.1), (5, .int v16)]) (st1 := []) (ws1 := [(a0, .inr (7, [.int (q7_thrown r11.2), .ref a0_buffer, .int (q7_length o0), .int (q7_at o0), .int (q7_from o0), .int (q7_kind o0), .int (q7_number o0), .int (q7_wrong o0), .ref a0_now, .ref a0_made, .ref a0_history, .ref a0_saved, .int (q7_entries o0), .int (q7_isSaved o0), .ref a0_closed, .ref a0_faces, .ref a0_rankOf, .ref a0_placeOf, .int (q7_faceMany r14.2), .int (q7_isLaid r14.2), .ref a0_counted, .ref a0_steps, .ref a0_onto, .ref a0_goes, .int (q7_found o0), .int (q7_images o0), .ref a0_firstImage, .int (q7_gathered o0)])), (a0_now, .inl (zI Z, 12, .inl (q7_now o0))), (a0_closed, .inl (zI Z, 256, .inl (q7_closed r14.2))), (a0_faces, .inl (zI Z, 256, .inl (q7_faces r14.2))), (a0_rankOf, .inl (zI Z, 256, .inl (q7_rankOf r14.2))), (a0_placeOf, .inl (zI Z, 256, .inl (q7_placeOf r14.2))), (a0_steps, .inl (zI Z, 10, .inl (q7_steps r7)))]) rfl rfl rfl rfl ?_
          unfold fX7_step__L79 at h
          refine g_iload C dX7_step__79 2 rfl ?_
          refine g_iload C dX7_step__81 3 rfl ?_
          obtain ⟨r17, hr18, h⟩ := bd_of h
          refine g_callSi C (kX7_has l Z r14.1 v16 r17 hr18) myX7_has 165 mw_6_45 rfl [] [0, 1, 2, 3, 4, 5, 6] [0, 1, 2, 3, 4, 5, 6] (wr := [(a0, .inr (7, [.int (q7_thrown r11.2), .ref a0_buffer, .int (q7_length o0), .int (q7_at o0), .int (q7_from o0), .int (q7_kind o0), .int (q7_number o0), .int (q7_wrong o0), .ref a0_now, .ref a0_made, .ref a0_history, .ref a0_saved, .int (q7_entries o0), .int (q7_isSaved o0), .ref a0_closed, .ref a0_faces, .ref a0_rankOf, .ref a0_placeOf, .int (q7_faceMany r14.2), .int (q7_isLaid r14.2), .ref a0_counted, .ref a0_steps, .ref a0_onto, .ref a0_goes, .int (q7_found o0), .int (q7_images o0), .ref a0_firstImage, .int (q7_gathered o0)])), (a0_now, .inl (zI Z, 12, .inl (q7_now o0))), (a0_closed, .inl (zI Z, 256, .inl (q7_closed r14.2))), (a0_faces, .inl (zI Z, 256, .inl (q7_faces r14.2))), (a0_rankOf, .inl (zI Z, 256, .inl (q7_rankOf r14.2))), (a0_placeOf, .inl (zI Z, 256, .inl (q7_placeOf r14.2))), (a0_steps, .inl (zI Z, 10, .inl (q7_steps r7)))]) rfl rfl (by decide) (by decide) (by decide) [(a0, .inr (7, [.int (q7_thrown r11.2), .ref a0_buffer, .int (q7_length o0), .int (q7_at o0), .int (q7_from o0), .int (q7_kind o0), .int (q7_number o0), .int (q7_wrong o0), .ref a0_now, .ref a0_made, .ref a0_history, .ref a0_saved, .int (q7_entries o0), .int (q7_isSaved o0), .ref a0_closed, .ref a0_faces, .ref a0_rankOf, .ref a0_placeOf, .int (q7_faceMany r14.2), .int (q7_isLaid r14.2), .ref a0_counted, .ref a0_steps, .ref a0_onto, .ref a0_goes, .int (q7_found o0), .int (q7_images o0), .ref a0_firstImage, .int (q7_gathered o0)])), (a0_now, .inl (zI Z, 12, .inl (q7_now o0))), (a0_closed, .inl (zI Z, 256, .inl (q7_closed r14.2))), (a0_faces, .inl (zI Z, 256, .inl (q7_faces r14.2))), (a0_rankOf, .inl (zI Z, 256, .inl (q7_rankOf r14.2))), (a0_placeOf, .inl (zI Z, 256, .inl (q7_placeOf r14.2))), (a0_steps, .inl (zI Z, 10, .inl (q7_steps r7)))] rfl (by decide) (Nat.le_of_ble_eq_true rfl) (by rw [hR]; exact Nat.le_of_ble_eq_true rfl) (by rw [hR]; exact Nat.le_of_ble_eq_true rfl) ⟨by rw [hR]; exact Nat.le_of_ble_eq_true rfl, by rw [hR]; exact Nat.le_of_ble_eq_true rfl⟩ rfl dX7_step__83 ?_
          refine g_if_eq C 107 dX7_step__86 (by decide) (fun c19 => ?_) (fun c19 => ?_)
          · replace h := it_t c19 h
            refine g_iinc C (v16 + 1) dX7_step__107 3 rfl rfl (by decide) [(5, .int (v16 + 1)), (0, .ref a0), (1, .int p1), (4, .int r14.1)] rfl ?_
            refine g_goto C 79 dX7_step__110 (by decide) ?_
            refine g_lv [1, 2, 3, 0] [(0, .ref a0), (1, .int p1), (4, .int r14.1), (5, .int (v16 + 1))] rfl ?_
            exact hk1 (v16 + 1) (Option.some.inj h).symm
          · replace h := it_f c19 h
            refine g_aload_n C dX7_step__89 rfl 0 rfl ?_
            refine g_get C 7 40 gin7 0 rfl rfl 21 (by decide) mw_5_106 rfl rfl dX7_step__90 ?_
            refine g_iload C dX7_step__93 3 rfl ?_
            obtain ⟨hi20, h⟩ := ck_of h
            refine g_iald C 6 rfl hi20 dX7_step__95 ?_
            refine g_aload_n C dX7_step__96 rfl 0 rfl ?_
            refine g_get C 7 40 gin7 0 rfl rfl 21 (by decide) mw_5_106 rfl rfl dX7_step__97 ?_
            refine g_iload_n C dX7_step__100 rfl 1 rfl ?_
            obtain ⟨hi21, h⟩ := ck_of h
            refine g_iald C 6 rfl hi21 dX7_step__101 ?_
            refine g_iconst C 1 dX7_step__102 (by decide) ?_
            refine g_isub C dX7_step__103 ?_
            refine g_icmp_eq C 113 dX7_step__104 (by decide) (fun c22 => ?_) (fun c22 => ?_)
            · replace h := it_t c22 h
              obtain ⟨r23, h, hy⟩ := ex_of h
              rw [hx1 r23 hy] at h
              refine g_iload C dX7_step__113 3 rfl ?_
              obtain rfl := Option.some.inj h
              subst hQ
              exact g_iret C rfl hr hlk dX7_step__115 [0, 1, 2, 3, 4, 5, 6] rfl (by decide)
            · replace h := it_f c22 h
              refine g_iinc C (v16 + 1) dX7_step__107 3 rfl rfl (by decide) [(5, .int (v16 + 1)), (0, .ref a0), (1, .int p1), (4, .int r14.1)] rfl ?_
              refine g_goto C 79 dX7_step__110 (by decide) ?_
              refine g_lv [1, 2, 3, 0] [(0, .ref a0), (1, .int p1), (4, .int r14.1), (5, .int (v16 + 1))] rfl ?_
              exact hk1 (v16 + 1) (Option.some.inj h).symm
        · replace h := it_f c13 h
          refine g_iconst C 0 dX7_step__66 (by decide) ?_
          obtain rfl := Option.some.inj h
          subst hQ
          exact g_iret C rfl hr hlk dX7_step__67 [0, 1, 2, 3, 4, 5, 6] rfl (by decide)
      refine g_if_le C 58 dX7_step__51 (by decide) (fun c24 => ?_) (fun c24 => ?_)
      · replace h := it_t c24 h
        refine g_iconst C 0 dX7_step__58 (by decide) ?_
        refine g_lv [0, 1, 3] [(0, .ref a0), (1, .int p1), (3, .int p3)] rfl ?_
        exact hj59 0 h
      · replace h := it_f c24 h
        refine g_iconst C 1 dX7_step__54 (by decide) ?_
        refine g_goto C 59 dX7_step__55 (by decide) ?_
        refine g_lv [0, 1, 3] [(0, .ref a0), (1, .int p1), (3, .int p3)] rfl ?_
        exact hj59 1 h
    · replace h := it_f c6 h
      refine g_iconst C 0 dX7_step__36 (by decide) ?_
      obtain rfl := Option.some.inj h
      subst hQ
      exact g_iret C rfl hr hlk dX7_step__37 [0, 1, 2, 3, 4, 5, 6] rfl (by decide)
  have hj28 : fX7_step__J28 o0 p1 p2 p3 = some res → Gw p l e R s m args below meth c 6 Z A Q 0 0 28 [(0, .ref a0), (1, .int p1), (2, .int p2), (3, .int p3)] [.ref a0] [(a0, .inr (7, [.int 0, .ref a0_buffer, .int (q7_length o0), .int (q7_at o0), .int (q7_from o0), .int (q7_kind o0), .int (q7_number o0), .int (q7_wrong o0), .ref a0_now, .ref a0_made, .ref a0_history, .ref a0_saved, .int (q7_entries o0), .int (q7_isSaved o0), .ref a0_closed, .ref a0_faces, .ref a0_rankOf, .ref a0_placeOf, .int (q7_faceMany o0), .int (q7_isLaid o0), .ref a0_counted, .ref a0_steps, .ref a0_onto, .ref a0_goes, .int (q7_found o0), .int (q7_images o0), .ref a0_firstImage, .int (q7_gathered o0)])), (a0_now, .inl (zI Z, 12, .inl (q7_now o0))), (a0_closed, .inl (zI Z, 256, .inl (q7_closed o0))), (a0_faces, .inl (zI Z, 256, .inl (q7_faces o0))), (a0_rankOf, .inl (zI Z, 256, .inl (q7_rankOf o0))), (a0_placeOf, .inl (zI Z, 256, .inl (q7_placeOf o0))), (a0_steps, .inl (zI Z, 10, .inl (q7_steps o0)))] := by
    intro h
    unfold fX7_step__J28 at h
    refine g_iconst C 0 dX7_step__28 (by decide) ?_
    exact hj29 0 h
  refine g_if_eq C 28 dX7_step__12 (by decide) (fun c25 => ?_) (fun c25 => ?_)
  · replace h := it_t c25 h
    exact hj28 h
  · replace h := it_f c25 h
    refine g_aload_n C dX7_step__15 rfl 0 rfl ?_
    refine g_iload_n C dX7_step__16 rfl 2 rfl ?_
    refine g_iload_n C dX7_step__17 rfl 3 rfl ?_
    obtain ⟨r26, hr27, h⟩ := bd_of h
    refine g_callVi C (kX7_isOne l Z a0 a0_buffer a0_now a0_made a0_history a0_saved a0_closed a0_faces a0_rankOf a0_placeOf a0_counted a0_steps a0_onto a0_goes a0_firstImage (s7_thrown o0 0) p2 p3 r26 hr27) 0 rfl (ci := 7) rfl rfl myX7_isOne 293 mw_7_77 rfl [0, 1] [2, 3, 4, 5, 6] [5, 6, 0, 1, 2, 3, 4] (wr := [(a0_closed, .inl (zI Z, 256, .inl (q7_closed o0))), (a0_faces, .inl (zI Z, 256, .inl (q7_faces o0))), (a0_rankOf, .inl (zI Z, 256, .inl (q7_rankOf o0))), (a0_placeOf, .inl (zI Z, 256, .inl (q7_placeOf o0))), (a0_steps, .inl (zI Z, 10, .inl (q7_steps o0)))]) rfl rfl (by decide) (by decide) (by decide) [(a0, .inr (7, [.int 0, .ref a0_buffer, .int (q7_length o0), .int (q7_at o0), .int (q7_from o0), .int (q7_kind o0), .int (q7_number o0), .int (q7_wrong o0), .ref a0_now, .ref a0_made, .ref a0_history, .ref a0_saved, .int (q7_entries o0), .int (q7_isSaved o0), .ref a0_closed, .ref a0_faces, .ref a0_rankOf, .ref a0_placeOf, .int (q7_faceMany o0), .int (q7_isLaid o0), .ref a0_counted, .ref a0_steps, .ref a0_onto, .ref a0_goes, .int (q7_found o0), .int (q7_images o0), .ref a0_firstImage, .int (q7_gathered o0)])), (a0_now, .inl (zI Z, 12, .inl (q7_now o0))), (a0_closed, .inl (zI Z, 256, .inl (q7_closed o0))), (a0_faces, .inl (zI Z, 256, .inl (q7_faces o0))), (a0_rankOf, .inl (zI Z, 256, .inl (q7_rankOf o0))), (a0_placeOf, .inl (zI Z, 256, .inl (q7_placeOf o0))), (a0_steps, .inl (zI Z, 10, .inl (q7_steps o0)))] rfl (by decide) (Nat.le_of_ble_eq_true rfl) (by rw [hR]; exact Nat.le_of_ble_eq_true rfl) (by rw [hR]; exact Nat.le_of_ble_eq_true rfl) ⟨by rw [hR]; exact Nat.le_of_ble_eq_true rfl, by rw [hR]; exact Nat.le_of_ble_eq_true rfl⟩ rfl dX7_step__18 ?_
    refine g_if_eq C 28 dX7_step__21 (by decide) (fun c28 => ?_) (fun c28 => ?_)
    · replace h := it_t c28 h
      exact hj28 h
    · replace h := it_f c28 h
      refine g_iconst C 1 dX7_step__24 (by decide) ?_
      refine g_goto C 29 dX7_step__25 (by decide) ?_
      exact hj29 1 h
def fX7_diameter_J84 (r9 : OX7) (v11 : Int32 × Int32 × Int32) (x14 : Int32) : Option ((Int32 × Int32 × Int32) ⊕ ((Int32 × Int32 × Int32 × Int32 × Int32 × (Nat → Int32) × (Nat → Int32) × (Nat → Int32) × (Nat → Int32) × (Nat → Int32)) ⊕ (Int32 × OX7))) :=
  ck (okI v11.2.2 10) (some (.inl ((jmax v11.1 ((q7_steps r9) (ix v11.2.2))), x14, (v11.2.2 + 1))))
def fX7_diameter_J83 (r9 : OX7) (v11 : Int32 × Int32 × Int32) : Option ((Int32 × Int32 × Int32) ⊕ ((Int32 × Int32 × Int32 × Int32 × Int32 × (Nat → Int32) × (Nat → Int32) × (Nat → Int32) × (Nat → Int32) × (Nat → Int32)) ⊕ (Int32 × OX7))) :=
  fX7_diameter_J84 r9 v11 0
def fX7_diameter_L57 (x1 : Int32) (v3 : Int32 × Int32 × Int32 × Int32 × Int32 × (Nat → Int32) × (Nat → Int32) × (Nat → Int32) × (Nat → Int32) × (Nat → Int32)) (r9 : OX7) (v11 : Int32 × Int32 × Int32) : Option ((Int32 × Int32 × Int32) ⊕ ((Int32 × Int32 × Int32 × Int32 × Int32 × (Nat → Int32) × (Nat → Int32) × (Nat → Int32) × (Nat → Int32) × (Nat → Int32)) ⊕ (Int32 × OX7))) :=
  if x1 ≤ v11.2.2 then (ex (some (.inl (v11.1, v11.2.1, (v3.2.2.1 + 1), (q7_faceMany r9), (q7_isLaid r9), (q7_closed r9), (q7_faces r9), (q7_rankOf r9), (q7_placeOf r9), (q7_steps r9)))))
  else (if v11.2.1 = 0 then (fX7_diameter_J83 r9 v11)
  else (ck (okI v11.2.2 10) (if ((q7_steps r9) (ix v11.2.2)) = (-1) then (fX7_diameter_J83 r9 v11)
  else (fX7_diameter_J84 r9 v11 1))))
def fX7_diameter_L41 (o0 : OX7) (p1 : Int32) (x1 : Int32) (v3 : Int32 × Int32 × Int32 × Int32 × Int32 × (Nat → Int32) × (Nat → Int32) × (Nat → Int32) × (Nat → Int32) × (Nat → Int32)) : Option ((Int32 × Int32 × Int32 × Int32 × Int32 × (Nat → Int32) × (Nat → Int32) × (Nat → Int32) × (Nat → Int32) × (Nat → Int32)) ⊕ (Int32 × OX7)) :=
  if x1 ≤ v3.2.2.1 then (ex ((fX7_fails (s7_steps (s7_isLaid (s7_faceMany (s7_placeOf (s7_rankOf (s7_faces (s7_closed (s7_thrown o0 0) v3.2.2.2.2.2.1) v3.2.2.2.2.2.2.1) v3.2.2.2.2.2.2.2.1) v3.2.2.2.2.2.2.2.2.1) v3.2.2.2.1) v3.2.2.2.2.1) v3.2.2.2.2.2.2.2.2.2) v3.2.1 1).bind fun r6 =>
  (if r6.1 = 0 then (some (v3.1, (s7_steps (s7_isLaid (s7_faceMany (s7_placeOf (s7_rankOf (s7_faces (s7_closed (s7_thrown o0 (q7_thrown r6.2)) v3.2.2.2.2.2.1) v3.2.2.2.2.2.2.1) v3.2.2.2.2.2.2.2.1) v3.2.2.2.2.2.2.2.2.1) v3.2.2.2.1) v3.2.2.2.2.1) v3.2.2.2.2.2.2.2.2.2)))
  else (some (0, (s7_steps (s7_isLaid (s7_faceMany (s7_placeOf (s7_rankOf (s7_faces (s7_closed (s7_thrown o0 (q7_thrown r6.2)) v3.2.2.2.2.2.1) v3.2.2.2.2.2.2.1) v3.2.2.2.2.2.2.2.1) v3.2.2.2.2.2.2.2.2.1) v3.2.2.2.1) v3.2.2.2.2.1) v3.2.2.2.2.2.2.2.2.2))))))
  else ((fX7_laySteps (s7_steps (s7_isLaid (s7_faceMany (s7_placeOf (s7_rankOf (s7_faces (s7_closed (s7_thrown o0 0) v3.2.2.2.2.2.1) v3.2.2.2.2.2.2.1) v3.2.2.2.2.2.2.2.1) v3.2.2.2.2.2.2.2.2.1) v3.2.2.2.1) v3.2.2.2.2.1) v3.2.2.2.2.2.2.2.2.2) v3.2.2.1 p1).bind fun r9 =>
  (lp (fX7_diameter_L57 x1 v3 r9) lpN (v3.1, v3.2.1, 0)))
def fX7_diameter_J36 (o0 : OX7) (p1 : Int32) (x1 : Int32) (x2 : Int32) : Option (Int32 × OX7) :=
  lp (fX7_diameter_L41 o0 p1 x1) lpN (0, x2, 0, (q7_faceMany o0), (q7_isLaid o0), (q7_closed o0), (q7_faces o0), (q7_rankOf o0), (q7_placeOf o0), (q7_steps o0))
def fX7_diameter_J24 (o0 : OX7) (p1 : Int32) (x1 : Int32) : Option (Int32 × OX7) :=
  if x1 ≤ 0 then (fX7_diameter_J36 o0 p1 x1 0)
  else (fX7_diameter_J36 o0 p1 x1 1)
def fX7_diameter (o0 : OX7) (p1 : Int32) : Option (Int32 × OX7) :=
  if p1 = 0 then (fX7_diameter_J24 o0 p1 ((q7_now o0) (ix 0)))
  else (fX7_diameter_J24 o0 p1 ((q7_now o0) (ix 1)))
theorem myX7_diameter : MYv yX7_diameter cX7_diameter 7 (some .int) 1 := ⟨mw_7_102, mw_7_103, mw_7_104, mw_1_9, ⟨by decide +kernel, by decide +kernel⟩, by decide +kernel⟩
set_option maxRecDepth 100000 in
set_option maxHeartbeats 4000000 in
theorem kX7_diameter (l : Launch) (Z : GZ) (a0 a0_buffer a0_now a0_made a0_history a0_saved a0_closed a0_faces a0_rankOf a0_placeOf a0_counted a0_steps a0_onto a0_goes a0_firstImage : Nat) (o0 : OX7) (p1 : Int32) (res : Int32 × OX7) (h : fX7_diameter o0 p1 = some res) : MI l Z yX7_diameter cX7_diameter 7 .int 7 163 [.ref a0, .int p1] [(a0, .inr (7, [.int (q7_thrown o0), .ref a0_buffer, .int (q7_length o0), .int (q7_at o0), .int (q7_from o0), .int (q7_kind o0), .int (q7_number o0), .int (q7_wrong o0), .ref a0_now, .ref a0_made, .ref a0_history, .ref a0_saved, .int (q7_entries o0), .int (q7_isSaved o0), .ref a0_closed, .ref a0_faces, .ref a0_rankOf, .ref a0_placeOf, .int (q7_faceMany o0), .int (q7_isLaid o0), .ref a0_counted, .ref a0_steps, .ref a0_onto, .ref a0_goes, .int (q7_found o0), .int (q7_images o0), .ref a0_firstImage, .int (q7_gathered o0)])), (a0_now, .inl (zI Z, 12, .inl (q7_now o0))), (a0_closed, .inl (zI Z, 256, .inl (q7_closed o0))), (a0_faces, .inl (zI Z, 256, .inl (q7_faces o0))), (a0_rankOf, .inl (zI Z, 256, .inl (q7_rankOf o0))), (a0_placeOf, .inl (zI Z, 256, .inl (q7_placeOf o0))), (a0_steps, .inl (zI Z, 10, .inl (q7_steps o0)))] res.1 [(a0, .inr (7, [.int (q7_thrown res.2), .ref a0_buffer, .int (q7_length o0), .int (q7_at o0), .int (q7_from o0), .int (q7_kind o0), .int (q7_number o0), .int (q7_wrong o0), .ref a0_now, .ref a0_made, .ref a0_history, .ref a0_saved, .int (q7_entries o0), .int (q7_isSaved o0), .ref a0_closed, .ref a0_faces, .ref a0_rankOf, .ref a0_placeOf, .int (q7_faceMany res.2), .int (q7_isLaid res.2), .ref a0_counted, .ref a0_steps, .ref a0_onto, .ref a0_goes, .int (q7_found o0), .int (q7_images o0), .ref a0_firstImage, .int (q7_gathered o0)])), (a0_now, .inl (zI Z, 12, .inl (q7_now o0))), (a0_closed, .inl (zI Z, 256, .inl (q7_closed res.2))), (a0_faces, .inl (zI Z, 256, .inl (q7_faces res.2))), (a0_rankOf, .inl (zI Z, 256, .inl (q7_rankOf res.2))), (a0_placeOf, .inl (zI Z, 256, .inl (q7_placeOf res.2))), (a0_steps, .inl (zI Z, 10, .inl (q7_steps res.2)))] := by
  refine MI_of (by decide +kernel) (Nat.le_of_ble_eq_true rfl) (fun {p e s m args below meth c} A R hR Q hQ C hr hlk => ?_)
  unfold fX7_diameter at h
  refine g_lv [0, 1] [(0, .ref a0), (1, .int p1)] rfl ?_
  refine g_aload_n C dX7_diameter_0 rfl 0 rfl ?_
  refine g_iconst C 0 dX7_diameter_1 (by decide) ?_
  refine g_put C 7 52 gin7 tyX7 tyX7_ok nmX7 0 rfl rfl 0 (by decide) mw_5_85 rfl rfl (ty := .int) (by decide +kernel) rfl rfl (Nat.le_of_ble_eq_true rfl) [(a0, .inr (7, [.int 0, .ref a0_buffer, .int (q7_length o0), .int (q7_at o0), .int (q7_from o0), .int (q7_kind o0), .int (q7_number o0), .int (q7_wrong o0), .ref a0_now, .ref a0_made, .ref a0_history, .ref a0_saved, .int (q7_entries o0), .int (q7_isSaved o0), .ref a0_closed, .ref a0_faces, .ref a0_rankOf, .ref a0_placeOf, .int (q7_faceMany o0), .int (q7_isLaid o0), .ref a0_counted, .ref a0_steps, .ref a0_onto, .ref a0_goes, .int (q7_found o0), .int (q7_images o0), .ref a0_firstImage, .int (q7_gathered o0)])), (a0_now, .inl (zI Z, 12, .inl (q7_now o0))), (a0_closed, .inl (zI Z, 256, .inl (q7_closed o0))), (a0_faces, .inl (zI Z, 256, .inl (q7_faces o0))), (a0_rankOf, .inl (zI Z, 256, .inl (q7_rankOf o0))), (a0_placeOf, .inl (zI Z, 256, .inl (q7_placeOf o0))), (a0_steps, .inl (zI Z, 10, .inl (q7_steps o0)))] rfl dX7_diameter_2 ?_
  refine g_iload_n C dX7_diameter_5 rfl 1 rfl ?_
  have hj24 : ∀ (x1 : Int32), fX7_diameter_J24 o0 p1 x1 = some res → Gw p l e R s m args below meth c 7 Z A Q 0 0 24 [(0, .ref a0), (1, .int p1)] [.int x1] [(a0, .inr (7, [.int 0, .ref a0_buffer, .int (q7_length o0), .int (q7_at o0), .int (q7_from o0), .int (q7_kind o0), .int (q7_number o0), .int (q7_wrong o0), .ref a0_now, .ref a0_made, .ref a0_history, .ref a0_saved, .int (q7_entries o0), .int (q7_isSaved o0), .ref a0_closed, .ref a0_faces, .ref a0_rankOf, .ref a0_placeOf, .int (q7_faceMany o0), .int (q7_isLaid o0), .ref a0_counted, .ref a0_steps, .ref a0_onto, .ref a0_goes, .int (q7_found o0), .int (q7_images o0), .ref a0_firstImage, .int (q7_gathered o0)])), (a0_now, .inl (zI Z, 12, .inl (q7_now o0))), (a0_closed, .inl (zI Z, 256, .inl (q7_closed o0))), (a0_faces, .inl (zI Z, 256, .inl (q7_faces o0))), (a0_rankOf, .inl (zI Z, 256, .inl (q7_rankOf o0))), (a0_placeOf, .inl (zI Z, 256, .inl (q7_placeOf o0))), (a0_steps, .inl (zI Z, 10, .inl (q7_steps o0)))] := by
    intro x1 h
    unfold fX7_diameter_J24 at h
    refine g_istore_n C dX7_diameter_24 rfl (by decide) [(2, .int x1), (0, .ref a0), (1, .int p1)] rfl ?_
    refine g_iconst C 0 dX7_diameter_25 (by decide) ?_
    refine g_istore_n C dX7_diameter_26 rfl (by decide) [(3, .int 0), (2, .int x1), (0, .ref a0), (1, .int p1)] rfl ?_
    refine g_iload_n C dX7_diameter_27 rfl 1 rfl ?_
    have hj36 : ∀ (x2 : Int32), fX7_diameter_J36 o0 p1 x1 x2 = some res → Gw p l e R s m args below meth c 7 Z A Q 0 0 36 [(0, .ref a0), (1, .int p1), (2, .int x1), (3, .int 0)] [.int x2] [(a0, .inr (7, [.int 0, .ref a0_buffer, .int (q7_length o0), .int (q7_at o0), .int (q7_from o0), .int (q7_kind o0), .int (q7_number o0), .int (q7_wrong o0), .ref a0_now, .ref a0_made, .ref a0_history, .ref a0_saved, .int (q7_entries o0), .int (q7_isSaved o0), .ref a0_closed, .ref a0_faces, .ref a0_rankOf, .ref a0_placeOf, .int (q7_faceMany o0), .int (q7_isLaid o0), .ref a0_counted, .ref a0_steps, .ref a0_onto, .ref a0_goes, .int (q7_found o0), .int (q7_images o0), .ref a0_firstImage, .int (q7_gathered o0)])), (a0_now, .inl (zI Z, 12, .inl (q7_now o0))), (a0_closed, .inl (zI Z, 256, .inl (q7_closed o0))), (a0_faces, .inl (zI Z, 256, .inl (q7_faces o0))), (a0_rankOf, .inl (zI Z, 256, .inl (q7_rankOf o0))), (a0_placeOf, .inl (zI Z, 256, .inl (q7_placeOf o0))), (a0_steps, .inl (zI Z, 10, .inl (q7_steps o0)))] := by
      intro x2 h
      unfold fX7_diameter_J36 at h
      refine g_istore C dX7_diameter_36 (by decide) [(4, .int x2), (0, .ref a0), (1, .int p1), (2, .int x1), (3, .int 0)] rfl ?_
      refine g_iconst C 0 dX7_diameter_38 (by decide) ?_
      refine g_istore C dX7_diameter_39 (by decide) [(5, .int 0), (4, .int x2), (0, .ref a0), (1, .int p1), (2, .int x1), (3, .int 0)] rfl ?_
      refine g_lv [2, 3, 4, 5, 1, 0] [(0, .ref a0), (1, .int p1), (2, .int x1), (3, .int 0), (4, .int x2), (5, .int 0)] rfl ?_
      refine g_loop (lvf := fun v3 => [(0, .ref a0), (1, .int p1), (2, .int x1), (3, .int v3.1), (4, .int v3.2.1), (5, .int v3.2.2.1)]) (wsf := fun v3 => [(a0, .inr (7, [.int 0, .ref a0_buffer, .int (q7_length o0), .int (q7_at o0), .int (q7_from o0), .int (q7_kind o0), .int (q7_number o0), .int (q7_wrong o0), .ref a0_now, .ref a0_made, .ref a0_history, .ref a0_saved, .int (q7_entries o0), .int (q7_isSaved o0), .ref a0_closed, .ref a0_faces, .ref a0_rankOf, .ref a0_placeOf, .int v3.2.2.2.1, .int v3.2.2.2.2.1, .ref a0_counted, .ref a0_steps, .ref a0_onto, .ref a0_goes, .int (q7_found o0), .int (q7_images o0), .ref a0_firstImage, .int (q7_gathered o0)])), (a0_now, .inl (zI Z, 12, .inl (q7_now o0))), (a0_closed, .inl (zI Z, 256, .inl v3.2.2.2.2.2.1)), (a0_faces, .inl (zI Z, 256, .inl v3.2.2.2.2.2.2.1)), (a0_rankOf, .inl (zI Z, 256, .inl v3.2.2.2.2.2.2.2.1)), (a0_placeOf, .inl (zI Z, 256, .inl v3.2.2.2.2.2.2.2.2.1)), (a0_steps, .inl (zI Z, 10, .inl v3.2.2.2.2.2.2.2.2.2))]) h (fun v3 y1 h hk1 hx1 => ?_)
      refine g_eq (lv1 := [(0, .ref a0), (1, .int p1), (2, .int x1), (3, .int v3.1), (4, .int v3.2.1), (5, .int v3.2.2.1)]) (st1 := []) (ws1 := [(a0, .inr (7, [.int 0, .ref a0_buffer, .int (q7_length o0), .int (q7_at o0), .int (q7_from o0), .int (q7_kind o0), .int (q7_number o0), .int (q7_wrong o0), .ref a0_now, .ref a0_made, .ref a0_history, .ref a0_saved, .int (q7_entries o0), .int (q7_isSaved o0), .ref a0_closed, .ref a0_faces, .ref a0_rankOf, .ref a0_placeOf, .int v3.2.2.2.1, .int v3.2.2.2.2.1, .ref a0_counted, .ref a0_steps, .ref a0_onto, .ref a0_goes, .int (q7_found o0), .int (q7_images o0), .ref a0_firstImage, .int (q7_gathered o0)])), (a0_now, .inl (zI Z, 12, .inl (q7_now o0))), (a0_closed, .inl (zI Z, 256, .inl v3.2.2.2.2.2.1)), (a0_faces, .inl (zI Z, 256, .inl v3.2.2.2.2.2.2.1)), (a0_rankOf, .inl (zI Z, 256, .inl v3.2.2.2.2.2.2.2.1)), (a0_placeOf, .inl (zI Z, 256, .inl v3.2.2.2.2.2.2.2.2.1)), (a0_steps, .inl (zI Z, 10, .inl v3.2.2.2.2.2.2.2.2.2))]) rfl rfl rfl rfl ?_
      unfold fX7_diameter_L41 at h
      refine g_iload C dX7_diameter_41 5 rfl ?_
      refine g_iload_n C dX7_diameter_43 rfl 2 rfl ?_
      refine g_icmp_ge C 110 dX7_diameter_44 (by decide) (fun c4 => ?_) (fun c4 => ?_)
      · replace h := it_t c4 h
        obtain ⟨r5, h, hy⟩ := ex_of h
        rw [hx1 r5 hy] at h
        refine g_aload_n C dX7_diameter_110 rfl 0 rfl ?_
        refine g_iload C dX7_diameter_111 4 rfl ?_
        refine g_iconst C 1 dX7_diameter_113 (by decide) ?_
        obtain ⟨r6, hr7, h⟩ := bd_of h
        refine g_callVi C (kX7_fails l Z a0 a0_buffer a0_now a0_made a0_history a0_saved a0_closed a0_faces a0_rankOf a0_placeOf a0_counted a0_steps a0_onto a0_goes a0_firstImage (s7_steps (s7_isLaid (s7_faceMany (s7_placeOf (s7_rankOf (s7_faces (s7_closed (s7_thrown o0 0) v3.2.2.2.2.2.1) v3.2.2.2.2.2.2.1) v3.2.2.2.2.2.2.2.1) v3.2.2.2.2.2.2.2.2.1) v3.2.2.2.1) v3.2.2.2.2.1) v3.2.2.2.2.2.2.2.2.2) v3.2.1 1 r6 hr7) 0 rfl (ci := 7) rfl rfl myX7_fails 63 mw_5_181 rfl [0] [1, 2, 3, 4, 5, 6] [6, 0, 1, 2, 3, 4, 5] (wr := [(a0_now, .inl (zI Z, 12, .inl (q7_now o0))), (a0_closed, .inl (zI Z, 256, .inl v3.2.2.2.2.2.1)), (a0_faces, .inl (zI Z, 256, .inl v3.2.2.2.2.2.2.1)), (a0_rankOf, .inl (zI Z, 256, .inl v3.2.2.2.2.2.2.2.1)), (a0_placeOf, .inl (zI Z, 256, .inl v3.2.2.2.2.2.2.2.2.1)), (a0_steps, .inl (zI Z, 10, .inl v3.2.2.2.2.2.2.2.2.2))]) rfl rfl (by decide) (by decide) (by decide) [(a0, .inr (7, [.int (q7_thrown r6.2), .ref a0_buffer, .int (q7_length o0), .int (q7_at o0), .int (q7_from o0), .int (q7_kind o0), .int (q7_number o0), .int (q7_wrong o0), .ref a0_now, .ref a0_made, .ref a0_history, .ref a0_saved, .int (q7_entries o0), .int (q7_isSaved o0), .ref a0_closed, .ref a0_faces, .ref a0_rankOf, .ref a0_placeOf, .int v3.2.2.2.1, .int v3.2.2.2.2.1, .ref a0_counted, .ref a0_steps, .ref a0_onto, .ref a0_goes, .int (q7_found o0), .int (q7_images o0), .ref a0_firstImage, .int (q7_gathered o0)])), (a0_now, .inl (zI Z, 12, .inl (q7_now o0))), (a0_closed, .inl (zI Z, 256, .inl v3.2.2.2.2.2.1)), (a0_faces, .inl (zI Z, 256, .inl v3.2.2.2.2.2.2.1)), (a0_rankOf, .inl (zI Z, 256, .inl v3.2.2.2.2.2.2.2.1)), (a0_placeOf, .inl (zI Z, 256, .inl v3.2.2.2.2.2.2.2.2.1)), (a0_steps, .inl (zI Z, 10, .inl v3.2.2.2.2.2.2.2.2.2))] rfl (by decide) (Nat.le_of_ble_eq_true rfl) (by rw [hR]; exact Nat.le_of_ble_eq_true rfl) (by rw [hR]; exact Nat.le_of_ble_eq_true rfl) ⟨by rw [hR]; exact Nat.le_of_ble_eq_true rfl, by rw [hR]; exact Nat.le_of_ble_eq_true rfl⟩ rfl dX7_diameter_114 ?_
        refine g_if_eq C 124 dX7_diameter_117 (by decide) (fun c8 => ?_) (fun c8 => ?_)
        · replace h := it_t c8 h
          refine g_iload_n C dX7_diameter_124 rfl 3 rfl ?_
          obtain rfl := Option.some.inj h
          subst hQ
          exact g_iret C rfl hr hlk dX7_diameter_125 [0, 1, 2, 3, 4, 5, 6] rfl (by decide)
        · replace h := it_f c8 h
          refine g_iconst C 0 dX7_diameter_120 (by decide) ?_
          refine g_goto C 125 dX7_diameter_121 (by decide) ?_
          obtain rfl := Option.some.inj h
          subst hQ
          exact g_iret C rfl hr hlk dX7_diameter_125 [0, 1, 2, 3, 4, 5, 6] rfl (by decide)
      · replace h := it_f c4 h
        refine g_aload_n C dX7_diameter_47 rfl 0 rfl ?_
        refine g_iload C dX7_diameter_48 5 rfl ?_
        refine g_iload_n C dX7_diameter_50 rfl 1 rfl ?_
        obtain ⟨r9, hr10, h⟩ := bd_of h
        refine g_callVv C (kX7_laySteps l Z a0 a0_buffer a0_now a0_made a0_history a0_saved a0_closed a0_faces a0_rankOf a0_placeOf a0_counted a0_steps a0_onto a0_goes a0_firstImage (s7_steps (s7_isLaid (s7_faceMany (s7_placeOf (s7_rankOf (s7_faces (s7_closed (s7_thrown o0 0) v3.2.2.2.2.2.1) v3.2.2.2.2.2.2.1) v3.2.2.2.2.2.2.2.1) v3.2.2.2.2.2.2.2.2.1) v3.2.2.2.1) v3.2.2.2.2.1) v3.2.2.2.2.2.2.2.2.2) v3.2.2.1 p1 r9 hr10) 0 rfl (ci := 7) rfl rfl myX7_laySteps 297 mw_7_93 rfl [0, 1, 2, 3, 4, 5, 6] [] [0, 1, 2, 3, 4, 5, 6] (wr := []) rfl rfl (by decide) (by decide) (by decide) [(a0, .inr (7, [.int 0, .ref a0_buffer, .int (q7_length o0), .int (q7_at o0), .int (q7_from o0), .int (q7_kind o0), .int (q7_number o0), .int (q7_wrong o0), .ref a0_now, .ref a0_made, .ref a0_history, .ref a0_saved, .int (q7_entries o0), .int (q7_isSaved o0), .ref a0_closed, .ref a0_faces, .ref a0_rankOf, .ref a0_placeOf, .int (q7_faceMany r9), .int (q7_isLaid r9), .ref a0_counted, .ref a0_steps, .ref a0_onto, .ref a0_goes, .int (q7_found o0), .int (q7_images o0), .ref a0_firstImage, .int (q7_gathered o0)])), (a0_now, .inl (zI Z, 12, .inl (q7_now o0))), (a0_closed, .inl (zI Z, 256, .inl (q7_closed r9))), (a0_faces, .inl (zI Z, 256, .inl (q7_faces r9))), (a0_rankOf, .inl (zI Z, 256, .inl (q7_rankOf r9))), (a0_placeOf, .inl (zI Z, 256, .inl (q7_placeOf r9))), (a0_steps, .inl (zI Z, 10, .inl (q7_steps r9)))] rfl (by decide) (Nat.le_of_ble_eq_true rfl) (by rw [hR]; exact Nat.le_of_ble_eq_true rfl) (by rw [hR]; exact Nat.le_of_ble_eq_true rfl) ⟨by rw [hR]; exact Nat.le_of_ble_eq_true rfl, by rw [hR]; exact Nat.le_of_ble_eq_true rfl⟩ rfl dX7_diameter_51 ?_
        refine g_iconst C 0 dX7_diameter_54 (by decide) ?_
        refine g_istore C dX7_diameter_55 (by decide) [(6, .int 0), (0, .ref a0), (1, .int p1), (2, .int x1), (3, .int v3.1), (4, .int v3.2.1), (5, .int v3.2.2.1)] rfl ?_
        refine g_lv [1, 2, 3, 4, 5, 6, 0] [(0, .ref a0), (1, .int p1), (2, .int x1), (3, .int v3.1), (4, .int v3.2.1), (5, .int v3.2.2.1), (6, .int 0)] rfl ?_
        refine g_loop (lvf := fun v11 => [(0, .ref a0), (1, .int p1), (2, .int x1), (3, .int v11.1), (4, .int v11.2.1), (5, .int v3.2.2.1), (6, .int v11.2.2)]) (wsf := fun v11 => [(a0, .inr (7, [.int 0, .ref a0_buffer, .int (q7_length o0), .int (q7_at o0), .int (q7_from o0), .int (q7_kind o0), .int (q7_number o0), .int (q7_wrong o0), .ref a0_now, .ref a0_made, .ref a0_history, .ref a0_saved, .int (q7_entries o0), .int (q7_isSaved o0), .ref a0_closed, .ref a0_faces, .ref a0_rankOf, .ref a0_placeOf, .int (q7_faceMany r9), .int (q7_isLaid r9), .ref a0_counted, .ref a0_steps, .ref a0_onto, .ref a0_goes, .int (q7_found o0), .int (q7_images o0), .ref a0_firstImage, .int (q7_gathered o0)])), (a0_now, .inl (zI Z, 12, .inl (q7_now o0))), (a0_closed, .inl (zI Z, 256, .inl (q7_closed r9))), (a0_faces, .inl (zI Z, 256, .inl (q7_faces r9))), (a0_rankOf, .inl (zI Z, 256, .inl (q7_rankOf r9))), (a0_placeOf, .inl (zI Z, 256, .inl (q7_placeOf r9))), (a0_steps, .inl (zI Z, 10, .inl (q7_steps r9)))]) h (fun v11 y2 h hk2 hx2 => ?_)
        refine g_eq (lv1 := [(0, .ref a0), (1, .int p1), (2, .int x1), (3, .int v11.1), (4, .int v11.2.1), (5, .int v3.2.2.1), (6, .int v11.2.2)]) (st1 := []) (ws1 := [(a0, .inr (7, [.int 0, .ref a0_buffer, .int (q7_length o0), .int (q7_at o0), .int (q7_from o0), .int (q7_kind o0), .int (q7_number o0), .int (q7_wrong o0), .ref a0_now, .ref a0_made, .ref a0_history, .ref a0_saved, .int (q7_entries o0), .int (q7_isSaved o0), .ref a0_closed, .ref a0_faces, .ref a0_rankOf, .ref a0_placeOf, .int (q7_faceMany r9), .int (q7_isLaid r9), .ref a0_counted, .ref a0_steps, .ref a0_onto, .ref a0_goes, .int (q7_found o0), .int (q7_images o0), .ref a0_firstImage, .int (q7_gathered o0)])), (a0_now, .inl (zI Z, 12, .inl (q7_now o0))), (a0_closed, .inl (zI Z, 256, .inl (q7_closed r9))), (a0_faces, .inl (zI Z, 256, .inl (q7_faces r9))), (a0_rankOf, .inl (zI Z, 256, .inl (q7_rankOf r9))), (a0_placeOf, .inl (zI Z, 256, .inl (q7_placeOf r9))), (a0_steps, .inl (zI Z, 10, .inl (q7_steps r9)))]) rfl rfl rfl rfl ?_
        unfold fX7_diameter_L57 at h
        refine g_iload C dX7_diameter_57 6 rfl ?_
        refine g_iload_n C dX7_diameter_59 rfl 2 rfl ?_
        refine g_icmp_ge C 104 dX7_diameter_60 (by decide) (fun c12 => ?_) (fun c12 => ?_)
        · replace h := it_t c12 h
          obtain ⟨r13, h, hy⟩ := ex_of h
          rw [hx2 r13 hy] at h
          refine g_iinc C (v3.2.2.1 + 1) dX7_diameter_104 5 rfl rfl (by decide) [(5, .int (v3.2.2.1 + 1)), (0, .ref a0), (1, .int p1), (2, .int x1), (3, .int v11.1), (4, .int v11.2.1), (6, .int v11.2.2)] rfl ?_
          refine g_goto C 41 dX7_diameter_107 (by decide) ?_
          refine g_lv [1, 2, 3, 4, 5, 0] [(0, .ref a0), (1, .int p1), (2, .int x1), (3, .int v11.1), (4, .int v11.2.1), (5, .int (v3.2.2.1 + 1))] rfl ?_
          exact hk1 (v11.1, v11.2.1, (v3.2.2.1 + 1), (q7_faceMany r9), (q7_isLaid r9), (q7_closed r9), (q7_faces r9), (q7_rankOf r9), (q7_placeOf r9), (q7_steps r9)) (Option.some.inj h).symm
        · replace h := it_f c12 h
          refine g_iload C dX7_diameter_63 4 rfl ?_
          have hj84 : ∀ (x14 : Int32), fX7_diameter_J84 r9 v11 x14 = some y2 → Gw p l e R s m args below meth c 7 Z A Q 0 0 84 [(0, .ref a0), (1, .int p1), (2, .int x1), (3, .int v11.1), (5, .int v3.2.2.1), (6, .int v11.2.2)] [.int x14] [(a0, .inr (7, [.int 0, .ref a0_buffer, .int (q7_length o0), .int (q7_at o0), .int (q7_from o0), .int (q7_kind o0), .int (q7_number o0), .int (q7_wrong o0), .ref a0_now, .ref a0_made, .ref a0_history, .ref a0_saved, .int (q7_entries o0), .int (q7_isSaved o0), .ref a0_closed, .ref a0_faces, .ref a0_rankOf, .ref a0_placeOf, .int (q7_faceMany r9), .int (q7_isLaid r9), .ref a0_counted, .ref a0_steps, .ref a0_onto, .ref a0_goes, .int (q7_found o0), .int (q7_images o0), .ref a0_firstImage, .int (q7_gathered o0)])), (a0_now, .inl (zI Z, 12, .inl (q7_now o0))), (a0_closed, .inl (zI Z, 256, .inl (q7_closed r9))), (a0_faces, .inl (zI Z, 256, .inl (q7_faces r9))), (a0_rankOf, .inl (zI Z, 256, .inl (q7_rankOf r9))), (a0_placeOf, .inl (zI Z, 256, .inl (q7_placeOf r9))), (a0_steps, .inl (zI Z, 10, .inl (q7_steps r9)))] := by
            intro x14 h
            unfold fX7_diameter_J84 at h
            refine g_istore C dX7_diameter_84 (by decide) [(4, .int x14), (0, .ref a0), (1, .int p1), (2, .int x1), (3, .int v11.1), (5, .int v3.2.2.1), (6, .int v11.2.2)] rfl ?_
            refine g_iload_n C dX7_diameter_86 rfl 4 rfl ?_
            refine g_aload_n C dX7_diameter_87 rfl 1 rfl ?_
            refine g_get C 7 40 gin7 0 rfl rfl 21 (by decide) mw_5_106 rfl rfl dX7_diameter_88 ?_
            refine g_iload C dX7_diameter_91 6 rfl ?_
            obtain ⟨hi15, h⟩ := ck_of h
            refine g_iald C 6 rfl hi15 dX7_diameter_93 ?_
            refine g_mmax C 205 mw_6_139 mw_1_213 mw_1_8 mw_1_214 (by rw [hR]; exact Nat.le_of_ble_eq_true rfl) (by rw [hR]; exact Nat.le_of_ble_eq_true rfl) ⟨by rw [hR]; exact Nat.le_of_ble_eq_true rfl, by rw [hR]; exact Nat.le_of_ble_eq_true rfl⟩ dX7_diameter_94 ?_
            refine g_istore_n C dX7_diameter_97 rfl (by decide) [(3, .int (jmax v11.1 ((q7_steps r9) (ix v11.2.2)))), (4, .int x14), (0, .ref a0), (1, .int p1), (2, .int x1), (5, .int v3.2.2.1), (6, .int v11.2.2)] rfl ?_
            refine g_iinc C (v11.2.2 + 1) dX7_diameter_98 6 rfl rfl (by decide) [(6, .int (v11.2.2 + 1)), (3, .int (jmax v11.1 ((q7_steps r9) (ix v11.2.2)))), (4, .int x14), (0, .ref a0), (1, .int p1), (2, .int x1), (5, .int v3.2.2.1)] rfl ?_
            refine g_goto C 57 dX7_diameter_101 (by decide) ?_
            refine g_lv [3, 4, 5, 1, 2, 6, 0] [(0, .ref a0), (1, .int p1), (2, .int x1), (3, .int (jmax v11.1 ((q7_steps r9) (ix v11.2.2)))), (4, .int x14), (5, .int v3.2.2.1), (6, .int (v11.2.2 + 1))] rfl ?_
            exact hk2 ((jmax v11.1 ((q7_steps r9) (ix v11.2.2))), x14, (v11.2.2 + 1)) (Option.some.inj h).symm
          have hj83 : fX7_diameter_J83 r9 v11 = some y2 → Gw p l e R s m args below meth c 7 Z A Q 0 0 83 [(0, .ref a0), (1, .int p1), (2, .int x1), (3, .int v11.1), (5, .int v3.2.2.1), (6, .int v11.2.2)] [] [(a0, .inr (7, [.int 0, .ref a0_buffer, .int (q7_length o0), .int (q7_at o0), .int (q7_from o0), .int (q7_kind o0), .int (q7_number o0), .int (q7_wrong o0), .ref a0_now, .ref a0_made, .ref a0_history, .ref a0_saved, .int (q7_entries o0), .int (q7_isSaved o0), .ref a0_closed, .ref a0_faces, .ref a0_rankOf, .ref a0_placeOf, .int (q7_faceMany r9), .int (q7_isLaid r9), .ref a0_counted, .ref a0_steps, .ref a0_onto, .ref a0_goes, .int (q7_found o0), .int (q7_images o0), .ref a0_firstImage, .int (q7_gathered o0)])), (a0_now, .inl (zI Z, 12, .inl (q7_now o0))), (a0_closed, .inl (zI Z, 256, .inl (q7_closed r9))), (a0_faces, .inl (zI Z, 256, .inl (q7_faces r9))), (a0_rankOf, .inl (zI Z, 256, .inl (q7_rankOf r9))), (a0_placeOf, .inl (zI Z, 256, .inl (q7_placeOf r9))), (a0_steps, .inl (zI Z, 10, .inl (q7_steps r9)))] := by
            intro h
            unfold fX7_diameter_J83 at h
            refine g_iconst C 0 dX7_diameter_83 (by decide) ?_
            exact hj84 0 h
          refine g_if_eq C 83 dX7_diameter_65 (by decide) (fun c16 => ?_) (fun c16 => ?_)
          · replace h := it_t c16 h
            refine g_lv [0, 1, 2, 3, 5, 6] [(0, .ref a0), (1, .int p1), (2, .int x1), (3, .int v11.1), (5, .int v3.2.2.1), (6, .int v11.2.2)] rfl ?_
            exact hj83 h
          · replace h := it_f c16 h
            refine g_aload_n C dX7_diameter_68 rfl 0 rfl ?_
            refine g_get C 7 40 gin7 0 rfl rfl 21 (by decide) mw_5_106 rfl rfl dX7_diameter_69 ?_
            refine g_iload C dX7_diameter_72 6 rfl ?_
            obtain ⟨hi17, h⟩ := ck_of h
            refine g_iald C 6 rfl hi17 dX7_diameter_74 ?_
            refine g_iconst C (-1) dX7_diameter_75 (by decide) ?_
            refine g_icmp_eq C 83 dX7_diameter_76 (by decide) (fun c18 => ?_) (fun c18 => ?_)
            · replace h := it_t c18 h
              refine g_lv [0, 1, 2, 3, 5, 6] [(0, .ref a0), (1, .int p1), (2, .int x1), (3, .int v11.1), (5, .int v3.2.2.1), (6, .int v11.2.2)] rfl ?_
              exact hj83 h
            · replace h := it_f c18 h
              refine g_iconst C 1 dX7_diameter_79 (by decide) ?_
              refine g_goto C 84 dX7_diameter_80 (by decide) ?_
              refine g_lv [0, 1, 2, 3, 5, 6] [(0, .ref a0), (1, .int p1), (2, .int x1), (3, .int v11.1), (5, .int v3.2.2.1), (6, .int v11.2.2)] rfl ?_
              exact hj84 1 h
    refine g_if_le C 35 dX7_diameter_28 (by decide) (fun c19 => ?_) (fun c19 => ?_)
    · replace h := it_t c19 h
      refine g_iconst C 0 dX7_diameter_35 (by decide) ?_
      refine g_lv [2, 3, 1, 0] [(0, .ref a0), (1, .int p1), (2, .int x1), (3, .int 0)] rfl ?_
      exact hj36 0 h
    · replace h := it_f c19 h
      refine g_iconst C 1 dX7_diameter_31 (by decide) ?_
      refine g_goto C 36 dX7_diameter_32 (by decide) ?_
      refine g_lv [2, 3, 1, 0] [(0, .ref a0), (1, .int p1), (2, .int x1), (3, .int 0)] rfl ?_
      exact hj36 1 h
  refine g_if_eq C 18 dX7_diameter_6 (by decide) (fun c20 => ?_) (fun c20 => ?_)
  · replace h := it_t c20 h
    refine g_aload_n C dX7_diameter_18 rfl 0 rfl ?_
    refine g_get C 7 13 gin7 0 rfl rfl 8 (by decide) mw_5_93 rfl rfl dX7_diameter_19 ?_
    refine g_iconst C 0 dX7_diameter_22 (by decide) ?_
    refine g_iald C 1 rfl (by decide) dX7_diameter_23 ?_
    exact hj24 ((q7_now o0) (ix 0)) h
  · replace h := it_f c20 h
    refine g_aload_n C dX7_diameter_9 rfl 0 rfl ?_
    refine g_get C 7 13 gin7 0 rfl rfl 8 (by decide) mw_5_93 rfl rfl dX7_diameter_10 ?_
    refine g_iconst C 1 dX7_diameter_13 (by decide) ?_
    refine g_iald C 1 rfl (by decide) dX7_diameter_14 ?_
    refine g_goto C 24 dX7_diameter_15 (by decide) ?_
    exact hj24 ((q7_now o0) (ix 1)) h
def fX7_mapped_L4 (o0 : OX7) (p1 : Int32) (v1 : Int32 × Int32) : Option ((Int32 × Int32) ⊕ (Int32)) :=
  if ((q7_now o0) (ix 0)) ≤ v1.2 then (ex (some v1.1))
  else ((fX7_has p1 v1.2).bind fun r4 =>
  (if r4 = 0 then (some (.inl ((v1.1 ||| 0), (v1.2 + 1))))
  else (ck (okI v1.2 8) (some (.inl ((v1.1 ||| (jshl 1 ((q7_goes o0) (ix v1.2)))), (v1.2 + 1)))))))
def fX7_mapped (o0 : OX7) (p1 : Int32) : Option (Int32) :=
  lp (fX7_mapped_L4 o0 p1) lpN (0, 0)
theorem myX7_mapped : MYv yX7_mapped cX7_mapped 4 (some .int) 1 := ⟨mw_7_123, ms_83, mw_7_124, mw_1_9, ⟨by decide +kernel, by decide +kernel⟩, by decide +kernel⟩
set_option maxRecDepth 100000 in
set_option maxHeartbeats 4000000 in
theorem kX7_mapped (l : Launch) (Z : GZ) (a0 a0_buffer a0_now a0_made a0_history a0_saved a0_closed a0_faces a0_rankOf a0_placeOf a0_counted a0_steps a0_onto a0_goes a0_firstImage : Nat) (o0 : OX7) (p1 : Int32) (res : Int32) (h : fX7_mapped o0 p1 = some res) : MI l Z yX7_mapped cX7_mapped 4 .int 1 21 [.ref a0, .int p1] [(a0, .inr (7, [.int (q7_thrown o0), .ref a0_buffer, .int (q7_length o0), .int (q7_at o0), .int (q7_from o0), .int (q7_kind o0), .int (q7_number o0), .int (q7_wrong o0), .ref a0_now, .ref a0_made, .ref a0_history, .ref a0_saved, .int (q7_entries o0), .int (q7_isSaved o0), .ref a0_closed, .ref a0_faces, .ref a0_rankOf, .ref a0_placeOf, .int (q7_faceMany o0), .int (q7_isLaid o0), .ref a0_counted, .ref a0_steps, .ref a0_onto, .ref a0_goes, .int (q7_found o0), .int (q7_images o0), .ref a0_firstImage, .int (q7_gathered o0)])), (a0_now, .inl (zI Z, 12, .inl (q7_now o0))), (a0_goes, .inl (zI Z, 8, .inl (q7_goes o0)))] res [(a0, .inr (7, [.int (q7_thrown o0), .ref a0_buffer, .int (q7_length o0), .int (q7_at o0), .int (q7_from o0), .int (q7_kind o0), .int (q7_number o0), .int (q7_wrong o0), .ref a0_now, .ref a0_made, .ref a0_history, .ref a0_saved, .int (q7_entries o0), .int (q7_isSaved o0), .ref a0_closed, .ref a0_faces, .ref a0_rankOf, .ref a0_placeOf, .int (q7_faceMany o0), .int (q7_isLaid o0), .ref a0_counted, .ref a0_steps, .ref a0_onto, .ref a0_goes, .int (q7_found o0), .int (q7_images o0), .ref a0_firstImage, .int (q7_gathered o0)])), (a0_now, .inl (zI Z, 12, .inl (q7_now o0))), (a0_goes, .inl (zI Z, 8, .inl (q7_goes o0)))] := by
  refine MI_of (by decide +kernel) (Nat.le_of_ble_eq_true rfl) (fun {p e s m args below meth c} A R hR Q hQ C hr hlk => ?_)
  unfold fX7_mapped at h
  refine g_lv [0, 1] [(0, .ref a0), (1, .int p1)] rfl ?_
  refine g_iconst C 0 dX7_mapped_0 (by decide) ?_
  refine g_istore_n C dX7_mapped_1 rfl (by decide) [(2, .int 0), (0, .ref a0), (1, .int p1)] rfl ?_
  refine g_iconst C 0 dX7_mapped_2 (by decide) ?_
  refine g_istore_n C dX7_mapped_3 rfl (by decide) [(3, .int 0), (2, .int 0), (0, .ref a0), (1, .int p1)] rfl ?_
  refine g_lv [2, 3, 1, 0] [(0, .ref a0), (1, .int p1), (2, .int 0), (3, .int 0)] rfl ?_
  refine g_loop (lvf := fun v1 => [(0, .ref a0), (1, .int p1), (2, .int v1.1), (3, .int v1.2)]) (wsf := fun v1 => [(a0, .inr (7, [.int (q7_thrown o0), .ref a0_buffer, .int (q7_length o0), .int (q7_at o0), .int (q7_from o0), .int (q7_kind o0), .int (q7_number o0), .int (q7_wrong o0), .ref a0_now, .ref a0_made, .ref a0_history, .ref a0_saved, .int (q7_entries o0), .int (q7_isSaved o0), .ref a0_closed, .ref a0_faces, .ref a0_rankOf, .ref a0_placeOf, .int (q7_faceMany o0), .int (q7_isLaid o0), .ref a0_counted, .ref a0_steps, .ref a0_onto, .ref a0_goes, .int (q7_found o0), .int (q7_images o0), .ref a0_firstImage, .int (q7_gathered o0)])), (a0_now, .inl (zI Z, 12, .inl (q7_now o0))), (a0_goes, .inl (zI Z, 8, .inl (q7_goes o0)))]) h (fun v1 y1 h hk1 hx1 => ?_)
  refine g_eq (lv1 := [(0, .ref a0), (1, .int p1), (2, .int v1.1), (3, .int v1.2)]) (st1 := []) (ws1 := [(a0, .inr (7, [.int (q7_thrown o0), .ref a0_buffer, .int (q7_length o0), .int (q7_at o0), .int (q7_from o0), .int (q7_kind o0), .int (q7_number o0), .int (q7_wrong o0), .ref a0_now, .ref a0_made, .ref a0_history, .ref a0_saved, .int (q7_entries o0), .int (q7_isSaved o0), .ref a0_closed, .ref a0_faces, .ref a0_rankOf, .ref a0_placeOf, .int (q7_faceMany o0), .int (q7_isLaid o0), .ref a0_counted, .ref a0_steps, .ref a0_onto, .ref a0_goes, .int (q7_found o0), .int (q7_images o0), .ref a0_firstImage, .int (q7_gathered o0)])), (a0_now, .inl (zI Z, 12, .inl (q7_now o0))), (a0_goes, .inl (zI Z, 8, .inl (q7_goes o0)))]) rfl rfl rfl rfl ?_
  unfold fX7_mapped_L4 at h
  refine g_iload_n C dX7_mapped_4 rfl 3 rfl ?_
  refine g_aload_n C dX7_mapped_5 rfl 0 rfl ?_
  refine g_get C 7 13 gin7 0 rfl rfl 8 (by decide) mw_5_93 rfl rfl dX7_mapped_6 ?_
  refine g_iconst C 0 dX7_mapped_9 (by decide) ?_
  refine g_iald C 1 rfl (by decide) dX7_mapped_10 ?_
  refine g_icmp_ge C 43 dX7_mapped_11 (by decide) (fun c2 => ?_) (fun c2 => ?_)
  · replace h := it_t c2 h
    obtain ⟨r3, h, hy⟩ := ex_of h
    rw [hx1 r3 hy] at h
    refine g_iload_n C dX7_mapped_43 rfl 2 rfl ?_
    obtain rfl := Option.some.inj h
    subst hQ
    exact g_iret C rfl hr hlk dX7_mapped_44 [0, 1, 2] rfl (by decide)
  · replace h := it_f c2 h
    refine g_iload_n C dX7_mapped_14 rfl 2 rfl ?_
    refine g_iload_n C dX7_mapped_15 rfl 1 rfl ?_
    refine g_iload_n C dX7_mapped_16 rfl 3 rfl ?_
    obtain ⟨r4, hr5, h⟩ := bd_of h
    refine g_callSi C (kX7_has l Z p1 v1.2 r4 hr5) myX7_has 165 mw_6_45 rfl [] [0, 1, 2] [0, 1, 2] (wr := [(a0, .inr (7, [.int (q7_thrown o0), .ref a0_buffer, .int (q7_length o0), .int (q7_at o0), .int (q7_from o0), .int (q7_kind o0), .int (q7_number o0), .int (q7_wrong o0), .ref a0_now, .ref a0_made, .ref a0_history, .ref a0_saved, .int (q7_entries o0), .int (q7_isSaved o0), .ref a0_closed, .ref a0_faces, .ref a0_rankOf, .ref a0_placeOf, .int (q7_faceMany o0), .int (q7_isLaid o0), .ref a0_counted, .ref a0_steps, .ref a0_onto, .ref a0_goes, .int (q7_found o0), .int (q7_images o0), .ref a0_firstImage, .int (q7_gathered o0)])), (a0_now, .inl (zI Z, 12, .inl (q7_now o0))), (a0_goes, .inl (zI Z, 8, .inl (q7_goes o0)))]) rfl rfl (by decide) (by decide) (by decide) [(a0, .inr (7, [.int (q7_thrown o0), .ref a0_buffer, .int (q7_length o0), .int (q7_at o0), .int (q7_from o0), .int (q7_kind o0), .int (q7_number o0), .int (q7_wrong o0), .ref a0_now, .ref a0_made, .ref a0_history, .ref a0_saved, .int (q7_entries o0), .int (q7_isSaved o0), .ref a0_closed, .ref a0_faces, .ref a0_rankOf, .ref a0_placeOf, .int (q7_faceMany o0), .int (q7_isLaid o0), .ref a0_counted, .ref a0_steps, .ref a0_onto, .ref a0_goes, .int (q7_found o0), .int (q7_images o0), .ref a0_firstImage, .int (q7_gathered o0)])), (a0_now, .inl (zI Z, 12, .inl (q7_now o0))), (a0_goes, .inl (zI Z, 8, .inl (q7_goes o0)))] rfl (by decide) (Nat.le_of_ble_eq_true rfl) (by rw [hR]; exact Nat.le_of_ble_eq_true rfl) (by rw [hR]; exact Nat.le_of_ble_eq_true rfl) ⟨by rw [hR]; exact Nat.le_of_ble_eq_true rfl, by rw [hR]; exact Nat.le_of_ble_eq_true rfl⟩ rfl dX7_mapped_17 ?_
    refine g_if_eq C 34 dX7_mapped_20 (by decide) (fun c6 => ?_) (fun c6 => ?_)
    · replace h := it_t c6 h
      refine g_iconst C 0 dX7_mapped_34 (by decide) ?_
      refine g_ior C dX7_mapped_35 ?_
      refine g_istore_n C dX7_mapped_36 rfl (by decide) [(2, .int (v1.1 ||| 0)), (0, .ref a0), (1, .int p1), (3, .int v1.2)] rfl ?_
      refine g_iinc C (v1.2 + 1) dX7_mapped_37 3 rfl rfl (by decide) [(3, .int (v1.2 + 1)), (2, .int (v1.1 ||| 0)), (0, .ref a0), (1, .int p1)] rfl ?_
      refine g_goto C 4 dX7_mapped_40 (by decide) ?_
      refine g_lv [2, 3, 1, 0] [(0, .ref a0), (1, .int p1), (2, .int (v1.1 ||| 0)), (3, .int (v1.2 + 1))] rfl ?_
      exact hk1 ((v1.1 ||| 0), (v1.2 + 1)) (Option.some.inj h).symm
    · replace h := it_f c6 h
      refine g_iconst C 1 dX7_mapped_23 (by decide) ?_
      refine g_aload_n C dX7_mapped_24 rfl 0 rfl ?_
      refine g_get C 7 46 gin7 0 rfl rfl 23 (by decide) mw_5_108 rfl rfl dX7_mapped_25 ?_
      refine g_iload_n C dX7_mapped_28 rfl 3 rfl ?_
      obtain ⟨hi7, h⟩ := ck_of h
      refine g_iald C 2 rfl hi7 dX7_mapped_29 ?_
      refine g_ishl C dX7_mapped_30 ?_
      refine g_goto C 35 dX7_mapped_31 (by decide) ?_
      refine g_ior C dX7_mapped_35 ?_
      refine g_istore_n C dX7_mapped_36 rfl (by decide) [(2, .int (v1.1 ||| (jshl 1 ((q7_goes o0) (ix v1.2))))), (0, .ref a0), (1, .int p1), (3, .int v1.2)] rfl ?_
      refine g_iinc C (v1.2 + 1) dX7_mapped_37 3 rfl rfl (by decide) [(3, .int (v1.2 + 1)), (2, .int (v1.1 ||| (jshl 1 ((q7_goes o0) (ix v1.2))))), (0, .ref a0), (1, .int p1)] rfl ?_
      refine g_goto C 4 dX7_mapped_40 (by decide) ?_
      refine g_lv [2, 3, 1, 0] [(0, .ref a0), (1, .int p1), (2, .int (v1.1 ||| (jshl 1 ((q7_goes o0) (ix v1.2))))), (3, .int (v1.2 + 1))] rfl ?_
      exact hk1 ((v1.1 ||| (jshl 1 ((q7_goes o0) (ix v1.2)))), (v1.2 + 1)) (Option.some.inj h).symm
def fX7_isMapped_J69 (o0 : OX7) (v1 : Int32 × Int32) (v7 : Int32) : Option ((Int32 × Int32) ⊕ (Int32)) :=
  if v7 = ((q7_now o0) (ix 1)) then (ex (some 0))
  else (some (.inl ((v1.1 ||| (jshl 1 v7)), (v1.2 + 1))))
def fX7_isMapped_L30 (o0 : OX7) (v1 : Int32 × Int32) (r5 : Int32) (v7 : Int32) : Option ((Int32) ⊕ ((Int32 × Int32) ⊕ (Int32))) :=
  if ((q7_now o0) (ix 1)) ≤ v7 then (ex (fX7_isMapped_J69 o0 v1 v7))
  else ((fX7_has v1.1 v7).bind fun r12 =>
  (if r12 = 0 then (ck (okI (2 + v7) 12) (if ((q7_onto o0) (ix (2 + v7))) = r5 then (ex (fX7_isMapped_J69 o0 v1 v7))
  else (some (.inl (v7 + 1)))))
  else (some (.inl (v7 + 1)))))
def fX7_isMapped_L4 (o0 : OX7) (v1 : Int32 × Int32) : Option ((Int32 × Int32) ⊕ (Int32)) :=
  if ((q7_now o0) (ix 1)) ≤ v1.2 then (ex (some 1))
  else (ck (okI (2 + v1.2) 12) ((fX7_mapped o0 ((q7_now o0) (ix (2 + v1.2)))).bind fun r5 =>
  (lp (fX7_isMapped_L30 o0 v1 r5) lpN 0)))
def fX7_isMapped (o0 : OX7) : Option (Int32) :=
  lp (fX7_isMapped_L4 o0) lpN (0, 0)
theorem myX7_isMapped : MYv yX7_isMapped cX7_isMapped 5 (some .boolean) 0 := ⟨mw_7_119, ms_82, mw_7_120, mw_1_9, ⟨by decide +kernel, by decide +kernel⟩, by decide +kernel⟩
set_option maxRecDepth 100000 in
set_option maxHeartbeats 4000000 in
theorem kX7_isMapped (l : Launch) (Z : GZ) (a0 a0_buffer a0_now a0_made a0_history a0_saved a0_closed a0_faces a0_rankOf a0_placeOf a0_counted a0_steps a0_onto a0_goes a0_firstImage : Nat) (o0 : OX7) (res : Int32) (h : fX7_isMapped o0 = some res) : MI l Z yX7_isMapped cX7_isMapped 5 .boolean 2 44 [.ref a0] [(a0, .inr (7, [.int (q7_thrown o0), .ref a0_buffer, .int (q7_length o0), .int (q7_at o0), .int (q7_from o0), .int (q7_kind o0), .int (q7_number o0), .int (q7_wrong o0), .ref a0_now, .ref a0_made, .ref a0_history, .ref a0_saved, .int (q7_entries o0), .int (q7_isSaved o0), .ref a0_closed, .ref a0_faces, .ref a0_rankOf, .ref a0_placeOf, .int (q7_faceMany o0), .int (q7_isLaid o0), .ref a0_counted, .ref a0_steps, .ref a0_onto, .ref a0_goes, .int (q7_found o0), .int (q7_images o0), .ref a0_firstImage, .int (q7_gathered o0)])), (a0_now, .inl (zI Z, 12, .inl (q7_now o0))), (a0_onto, .inl (zI Z, 12, .inl (q7_onto o0))), (a0_goes, .inl (zI Z, 8, .inl (q7_goes o0)))] res [(a0, .inr (7, [.int (q7_thrown o0), .ref a0_buffer, .int (q7_length o0), .int (q7_at o0), .int (q7_from o0), .int (q7_kind o0), .int (q7_number o0), .int (q7_wrong o0), .ref a0_now, .ref a0_made, .ref a0_history, .ref a0_saved, .int (q7_entries o0), .int (q7_isSaved o0), .ref a0_closed, .ref a0_faces, .ref a0_rankOf, .ref a0_placeOf, .int (q7_faceMany o0), .int (q7_isLaid o0), .ref a0_counted, .ref a0_steps, .ref a0_onto, .ref a0_goes, .int (q7_found o0), .int (q7_images o0), .ref a0_firstImage, .int (q7_gathered o0)])), (a0_now, .inl (zI Z, 12, .inl (q7_now o0))), (a0_onto, .inl (zI Z, 12, .inl (q7_onto o0))), (a0_goes, .inl (zI Z, 8, .inl (q7_goes o0)))] := by
  refine MI_of (by decide +kernel) (Nat.le_of_ble_eq_true rfl) (fun {p e s m args below meth c} A R hR Q hQ C hr hlk => ?_)
  unfold fX7_isMapped at h
  refine g_lv [0] [(0, .ref a0)] rfl ?_
  refine g_iconst C 0 dX7_isMapped_0 (by decide) ?_
  refine g_istore_n C dX7_isMapped_1 rfl (by decide) [(1, .int 0), (0, .ref a0)] rfl ?_
  refine g_iconst C 0 dX7_isMapped_2 (by decide) ?_
  refine g_istore_n C dX7_isMapped_3 rfl (by decide) [(2, .int 0), (1, .int 0), (0, .ref a0)] rfl ?_
  refine g_lv [2, 1, 0] [(0, .ref a0), (1, .int 0), (2, .int 0)] rfl ?_
  refine g_loop (lvf := fun v1 => [(0, .ref a0), (1, .int v1.1), (2, .int v1.2)]) (wsf := fun v1 => [(a0, .inr (7, [.int (q7_thrown o0), .ref a0_buffer, .int (q7_length o0), .int (q7_at o0), .int (q7_from o0), .int (q7_kind o0), .int (q7_number o0), .int (q7_wrong o0), .ref a0_now, .ref a0_made, .ref a0_history, .ref a0_saved, .int (q7_entries o0), .int (q7_isSaved o0), .ref a0_closed, .ref a0_faces, .ref a0_rankOf, .ref a0_placeOf, .int (q7_faceMany o0), .int (q7_isLaid o0), .ref a0_counted, .ref a0_steps, .ref a0_onto, .ref a0_goes, .int (q7_found o0), .int (q7_images o0), .ref a0_firstImage, .int (q7_gathered o0)])), (a0_now, .inl (zI Z, 12, .inl (q7_now o0))), (a0_onto, .inl (zI Z, 12, .inl (q7_onto o0))), (a0_goes, .inl (zI Z, 8, .inl (q7_goes o0)))]) h (fun v1 y1 h hk1 hx1 => ?_)
  refine g_eq (lv1 := [(0, .ref a0), (1, .int v1.1), (2, .int v1.2)]) (st1 := []) (ws1 := [(a0, .inr (7, [.int (q7_thrown o0), .ref a0_buffer, .int (q7_length o0), .int (q7_at o0), .int (q7_from o0), .int (q7_kind o0), .int (q7_number o0), .int (q7_wrong o0), .ref a0_now, .ref a0_made, .ref a0_history, .ref a0_saved, .int (q7_entries o0), .int (q7_isSaved o0), .ref a0_closed, .ref a0_faces, .ref a0_rankOf, .ref a0_placeOf, .int (q7_faceMany o0), .int (q7_isLaid o0), .ref a0_counted, .ref a0_steps, .ref a0_onto, .ref a0_goes, .int (q7_found o0), .int (q7_images o0), .ref a0_firstImage, .int (q7_gathered o0)])), (a0_now, .inl (zI Z, 12, .inl (q7_now o0))), (a0_onto, .inl (zI Z, 12, .inl (q7_onto o0))), (a0_goes, .inl (zI Z, 8, .inl (q7_goes o0)))]) rfl rfl rfl rfl ?_
  unfold fX7_isMapped_L4 at h
  refine g_iload_n C dX7_isMapped_4 rfl 2 rfl ?_
  refine g_aload_n C dX7_isMapped_5 rfl 0 rfl ?_
  refine g_get C 7 13 gin7 0 rfl rfl 8 (by decide) mw_5_93 rfl rfl dX7_isMapped_6 ?_
  refine g_iconst C 1 dX7_isMapped_9 (by decide) ?_
  refine g_iald C 1 rfl (by decide) dX7_isMapped_10 ?_
  refine g_icmp_ge C 95 dX7_isMapped_11 (by decide) (fun c2 => ?_) (fun c2 => ?_)
  · replace h := it_t c2 h
    obtain ⟨r3, h, hy⟩ := ex_of h
    rw [hx1 r3 hy] at h
    refine g_iconst C 1 dX7_isMapped_95 (by decide) ?_
    obtain rfl := Option.some.inj h
    subst hQ
    exact g_zret C rfl (Or.inr rfl) hr hlk dX7_isMapped_96 [0, 1, 2, 3] rfl (by decide)
  · replace h := it_f c2 h
    refine g_aload_n C dX7_isMapped_14 rfl 0 rfl ?_
    refine g_aload_n C dX7_isMapped_15 rfl 0 rfl ?_
    refine g_get C 7 13 gin7 0 rfl rfl 8 (by decide) mw_5_93 rfl rfl dX7_isMapped_16 ?_
    refine g_iconst C 2 dX7_isMapped_19 (by decide) ?_
    refine g_iload_n C dX7_isMapped_20 rfl 2 rfl ?_
    refine g_iadd C dX7_isMapped_21 ?_
    obtain ⟨hi4, h⟩ := ck_of h
    refine g_iald C 1 rfl hi4 dX7_isMapped_22 ?_
    obtain ⟨r5, hr6, h⟩ := bd_of h
    refine g_callVi C (kX7_mapped l Z a0 a0_buffer a0_now a0_made a0_history a0_saved a0_closed a0_faces a0_rankOf a0_placeOf a0_counted a0_steps a0_onto a0_goes a0_firstImage o0 ((q7_now o0) (ix (2 + v1.2))) r5 hr6) 0 rfl (ci := 7) rfl rfl myX7_mapped 301 mw_7_121 rfl [0, 1, 3] [2] [1, 2, 0, 3] (wr := [(a0_onto, .inl (zI Z, 12, .inl (q7_onto o0)))]) rfl rfl (by decide) (by decide) (by decide) [(a0, .inr (7, [.int (q7_thrown o0), .ref a0_buffer, .int (q7_length o0), .int (q7_at o0), .int (q7_from o0), .int (q7_kind o0), .int (q7_number o0), .int (q7_wrong o0), .ref a0_now, .ref a0_made, .ref a0_history, .ref a0_saved, .int (q7_entries o0), .int (q7_isSaved o0), .ref a0_closed, .ref a0_faces, .ref a0_rankOf, .ref a0_placeOf, .int (q7_faceMany o0), .int (q7_isLaid o0), .ref a0_counted, .ref a0_steps, .ref a0_onto, .ref a0_goes, .int (q7_found o0), .int (q7_images o0), .ref a0_firstImage, .int (q7_gathered o0)])), (a0_now, .inl (zI Z, 12, .inl (q7_now o0))), (a0_onto, .inl (zI Z, 12, .inl (q7_onto o0))), (a0_goes, .inl (zI Z, 8, .inl (q7_goes o0)))] rfl (by decide) (Nat.le_of_ble_eq_true rfl) (by rw [hR]; exact Nat.le_of_ble_eq_true rfl) (by rw [hR]; exact Nat.le_of_ble_eq_true rfl) ⟨by rw [hR]; exact Nat.le_of_ble_eq_true rfl, by rw [hR]; exact Nat.le_of_ble_eq_true rfl⟩ rfl dX7_isMapped_23 ?_
    refine g_istore_n C dX7_isMapped_26 rfl (by decide) [(3, .int r5), (0, .ref a0), (1, .int v1.1), (2, .int v1.2)] rfl ?_
    refine g_iconst C 0 dX7_isMapped_27 (by decide) ?_
    refine g_istore C dX7_isMapped_28 (by decide) [(4, .int 0), (3, .int r5), (0, .ref a0), (1, .int v1.1), (2, .int v1.2)] rfl ?_
    refine g_lv [2, 3, 4, 1, 0] [(0, .ref a0), (1, .int v1.1), (2, .int v1.2), (3, .int r5), (4, .int 0)] rfl ?_
    refine g_loop (lvf := fun v7 => [(0, .ref a0), (1, .int v1.1), (2, .int v1.2), (3, .int r5), (4, .int v7)]) (wsf := fun v7 => [(a0, .inr (7, [.int (q7_thrown o0), .ref a0_buffer, .int (q7_length o0), .int (q7_at o0), .int (q7_from o0), .int (q7_kind o0), .int (q7_number o0), .int (q7_wrong o0), .ref a0_now, .ref a0_made, .ref a0_history, .ref a0_saved, .int (q7_entries o0), .int (q7_isSaved o0), .ref a0_closed, .ref a0_faces, .ref a0_rankOf, .ref a0_placeOf, .int (q7_faceMany o0), .int (q7_isLaid o0), .ref a0_counted, .ref a0_steps, .ref a0_onto, .ref a0_goes, .int (q7_found o0), .int (q7_images o0), .ref a0_firstImage, .int (q7_gathered o0)])), (a0_now, .inl (zI Z, 12, .inl (q7_now o0))), (a0_onto, .inl (zI Z, 12, .inl (q7_onto o0))), (a0_goes, .inl (zI Z, 8, .inl (q7_goes o0)))]) h (fun v7 y2 h hk2 hx2 => ?_)
    refine g_eq (lv1 := [(0, .ref a0), (1, .int v1.1), (2, .int v1.2), (3, .int r5), (4, .int v7)]) (st1 := []) (ws1 := [(a0, .inr (7, [.int (q7_thrown o0), .ref a0_buffer, .int (q7_length o0), .int (q7_at o0), .int (q7_from o0), .int (q7_kind o0), .int (q7_number o0), .int (q7_wrong o0), .ref a0_now, .ref a0_made, .ref a0_history, .ref a0_saved, .int (q7_entries o0), .int (q7_isSaved o0), .ref a0_closed, .ref a0_faces, .ref a0_rankOf, .ref a0_placeOf, .int (q7_faceMany o0), .int (q7_isLaid o0), .ref a0_counted, .ref a0_steps, .ref a0_onto, .ref a0_goes, .int (q7_found o0), .int (q7_images o0), .ref a0_firstImage, .int (q7_gathered o0)])), (a0_now, .inl (zI Z, 12, .inl (q7_now o0))), (a0_onto, .inl (zI Z, 12, .inl (q7_onto o0))), (a0_goes, .inl (zI Z, 8, .inl (q7_goes o0)))]) rfl rfl rfl rfl ?_
    unfold fX7_isMapped_L30 at h
    refine g_iload C dX7_isMapped_30 4 rfl ?_
    refine g_aload_n C dX7_isMapped_32 rfl 0 rfl ?_
    refine g_get C 7 13 gin7 0 rfl rfl 8 (by decide) mw_5_93 rfl rfl dX7_isMapped_33 ?_
    refine g_iconst C 1 dX7_isMapped_36 (by decide) ?_
    refine g_iald C 1 rfl (by decide) dX7_isMapped_37 ?_
    have hj69 : fX7_isMapped_J69 o0 v1 v7 = some y1 → Gw p l e R s m args below meth c 5 Z A Q 0 0 69 [(0, .ref a0), (1, .int v1.1), (2, .int v1.2), (4, .int v7)] [] [(a0, .inr (7, [.int (q7_thrown o0), .ref a0_buffer, .int (q7_length o0), .int (q7_at o0), .int (q7_from o0), .int (q7_kind o0), .int (q7_number o0), .int (q7_wrong o0), .ref a0_now, .ref a0_made, .ref a0_history, .ref a0_saved, .int (q7_entries o0), .int (q7_isSaved o0), .ref a0_closed, .ref a0_faces, .ref a0_rankOf, .ref a0_placeOf, .int (q7_faceMany o0), .int (q7_isLaid o0), .ref a0_counted, .ref a0_steps, .ref a0_onto, .ref a0_goes, .int (q7_found o0), .int (q7_images o0), .ref a0_firstImage, .int (q7_gathered o0)])), (a0_now, .inl (zI Z, 12, .inl (q7_now o0))), (a0_onto, .inl (zI Z, 12, .inl (q7_onto o0))), (a0_goes, .inl (zI Z, 8, .inl (q7_goes o0)))] := by
      intro h
      unfold fX7_isMapped_J69 at h
      refine g_iload C dX7_isMapped_69 3 rfl ?_
      refine g_aload_n C dX7_isMapped_71 rfl 0 rfl ?_
      refine g_get C 7 13 gin7 0 rfl rfl 8 (by decide) mw_5_93 rfl rfl dX7_isMapped_72 ?_
      refine g_iconst C 1 dX7_isMapped_75 (by decide) ?_
      refine g_iald C 1 rfl (by decide) dX7_isMapped_76 ?_
      refine g_icmp_ne C 82 dX7_isMapped_77 (by decide) (fun c8 => ?_) (fun c8 => ?_)
      · replace h := it_f c8 h
        refine g_iload_n C dX7_isMapped_82 rfl 1 rfl ?_
        refine g_iconst C 1 dX7_isMapped_83 (by decide) ?_
        refine g_iload C dX7_isMapped_84 3 rfl ?_
        refine g_ishl C dX7_isMapped_86 ?_
        refine g_ior C dX7_isMapped_87 ?_
        refine g_istore_n C dX7_isMapped_88 rfl (by decide) [(1, .int (v1.1 ||| (jshl 1 v7))), (0, .ref a0), (2, .int v1.2), (4, .int v7)] rfl ?_
        refine g_iinc C (v1.2 + 1) dX7_isMapped_89 2 rfl rfl (by decide) [(2, .int (v1.2 + 1)), (1, .int (v1.1 ||| (jshl 1 v7))), (0, .ref a0), (4, .int v7)] rfl ?_
        refine g_goto C 4 dX7_isMapped_92 (by decide) ?_
        refine g_lv [2, 1, 0] [(0, .ref a0), (1, .int (v1.1 ||| (jshl 1 v7))), (2, .int (v1.2 + 1))] rfl ?_
        exact hk1 ((v1.1 ||| (jshl 1 v7)), (v1.2 + 1)) (Option.some.inj h).symm
      · replace h := it_t c8 h
        obtain ⟨r9, h, hy⟩ := ex_of h
        rw [hx1 r9 hy] at h
        refine g_iconst C 0 dX7_isMapped_80 (by decide) ?_
        obtain rfl := Option.some.inj h
        subst hQ
        exact g_zret C rfl (Or.inl rfl) hr hlk dX7_isMapped_81 [0, 1, 2, 3] rfl (by decide)
    refine g_icmp_ge C 69 dX7_isMapped_38 (by decide) (fun c10 => ?_) (fun c10 => ?_)
    · replace h := it_t c10 h
      obtain ⟨r11, h, hy⟩ := ex_of h
      rw [hx2 r11 hy] at h
      refine g_lv [0, 1, 2, 4] [(0, .ref a0), (1, .int v1.1), (2, .int v1.2), (4, .int v7)] rfl ?_
      exact hj69 h
    · replace h := it_f c10 h
      refine g_iload_n C dX7_isMapped_41 rfl 1 rfl ?_
      refine g_iload C dX7_isMapped_42 4 rfl ?_
      obtain ⟨r12, hr13, h⟩ := bd_of h
      refine g_callSi C (kX7_has l Z v1.1 v7 r12 hr13) myX7_has 165 mw_6_45 rfl [] [0, 1, 2, 3] [0, 1, 2, 3] (wr := [(a0, .inr (7, [.int (q7_thrown o0), .ref a0_buffer, .int (q7_length o0), .int (q7_at o0), .int (q7_from o0), .int (q7_kind o0), .int (q7_number o0), .int (q7_wrong o0), .ref a0_now, .ref a0_made, .ref a0_history, .ref a0_saved, .int (q7_entries o0), .int (q7_isSaved o0), .ref a0_closed, .ref a0_faces, .ref a0_rankOf, .ref a0_placeOf, .int (q7_faceMany o0), .int (q7_isLaid o0), .ref a0_counted, .ref a0_steps, .ref a0_onto, .ref a0_goes, .int (q7_found o0), .int (q7_images o0), .ref a0_firstImage, .int (q7_gathered o0)])), (a0_now, .inl (zI Z, 12, .inl (q7_now o0))), (a0_onto, .inl (zI Z, 12, .inl (q7_onto o0))), (a0_goes, .inl (zI Z, 8, .inl (q7_goes o0)))]) rfl rfl (by decide) (by decide) (by decide) [(a0, .inr (7, [.int (q7_thrown o0), .ref a0_buffer, .int (q7_length o0), .int (q7_at o0), .int (q7_from o0), .int (q7_kind o0), .int (q7_number o0), .int (q7_wrong o0), .ref a0_now, .ref a0_made, .ref a0_history, .ref a0_saved, .int (q7_entries o0), .int (q7_isSaved o0), .ref a0_closed, .ref a0_faces, .ref a0_rankOf, .ref a0_placeOf, .int (q7_faceMany o0), .int (q7_isLaid o0), .ref a0_counted, .ref a0_steps, .ref a0_onto, .ref a0_goes, .int (q7_found o0), .int (q7_images o0), .ref a0_firstImage, .int (q7_gathered o0)])), (a0_now, .inl (zI Z, 12, .inl (q7_now o0))), (a0_onto, .inl (zI Z, 12, .inl (q7_onto o0))), (a0_goes, .inl (zI Z, 8, .inl (q7_goes o0)))] rfl (by decide) (Nat.le_of_ble_eq_true rfl) (by rw [hR]; exact Nat.le_of_ble_eq_true rfl) (by rw [hR]; exact Nat.le_of_ble_eq_true rfl) ⟨by rw [hR]; exact Nat.le_of_ble_eq_true rfl, by rw [hR]; exact Nat.le_of_ble_eq_true rfl⟩ rfl dX7_isMapped_44 ?_
      refine g_if_ne C 63 dX7_isMapped_47 (by decide) (fun c14 => ?_) (fun c14 => ?_)
      · replace h := it_f c14 h
        refine g_iinc C (v7 + 1) dX7_isMapped_63 4 rfl rfl (by decide) [(4, .int (v7 + 1)), (0, .ref a0), (1, .int v1.1), (2, .int v1.2), (3, .int r5)] rfl ?_
        refine g_goto C 30 dX7_isMapped_66 (by decide) ?_
        refine g_lv [1, 2, 3, 4, 0] [(0, .ref a0), (1, .int v1.1), (2, .int v1.2), (3, .int r5), (4, .int (v7 + 1))] rfl ?_
        exact hk2 (v7 + 1) (Option.some.inj h).symm
      · replace h := it_t c14 h
        refine g_aload_n C dX7_isMapped_50 rfl 0 rfl ?_
        refine g_get C 7 43 gin7 0 rfl rfl 22 (by decide) mw_5_107 rfl rfl dX7_isMapped_51 ?_
        refine g_iconst C 2 dX7_isMapped_54 (by decide) ?_
        refine g_iload C dX7_isMapped_55 4 rfl ?_
        refine g_iadd C dX7_isMapped_57 ?_
        obtain ⟨hi15, h⟩ := ck_of h
        refine g_iald C 2 rfl hi15 dX7_isMapped_58 ?_
        refine g_iload_n C dX7_isMapped_59 rfl 3 rfl ?_
        refine g_icmp_eq C 69 dX7_isMapped_60 (by decide) (fun c16 => ?_) (fun c16 => ?_)
        · replace h := it_t c16 h
          obtain ⟨r17, h, hy⟩ := ex_of h
          rw [hx2 r17 hy] at h
          refine g_lv [0, 1, 2, 4] [(0, .ref a0), (1, .int v1.1), (2, .int v1.2), (4, .int v7)] rfl ?_
          exact hj69 h
        · replace h := it_f c16 h
          refine g_iinc C (v7 + 1) dX7_isMapped_63 4 rfl rfl (by decide) [(4, .int (v7 + 1)), (0, .ref a0), (1, .int v1.1), (2, .int v1.2), (3, .int r5)] rfl ?_
          refine g_goto C 30 dX7_isMapped_66 (by decide) ?_
          refine g_lv [1, 2, 3, 4, 0] [(0, .ref a0), (1, .int v1.1), (2, .int v1.2), (3, .int r5), (4, .int (v7 + 1))] rfl ?_
          exact hk2 (v7 + 1) (Option.some.inj h).symm
def fX7_often_L4 (o0 : Nat → Int32) (p1 : Int32) (v1 : Int32 × Int32) : Option ((Int32 × Int32) ⊕ (Int32)) :=
  if (o0 (ix 1)) ≤ v1.2 then (ex (some v1.1))
  else (ck (okI (2 + v1.2) 12) (some (.inl ((v1.1 + ((jshr (o0 (ix (2 + v1.2))) p1) &&& 1)), (v1.2 + 1)))))
def fX7_often (o0 : Nat → Int32) (p1 : Int32) : Option (Int32) :=
  lp (fX7_often_L4 o0 p1) lpN (0, 0)
theorem myX7_often : MYs yX7_often cX7_often 4 (some .int) 2 := ⟨mw_7_126, mw_7_127, mw_1_9, ⟨by decide +kernel, by decide +kernel⟩, by decide +kernel⟩
set_option maxRecDepth 100000 in
set_option maxHeartbeats 4000000 in
theorem kX7_often (l : Launch) (Z : GZ) (a0 : Nat) (o0 : Nat → Int32) (p1 : Int32) (res : Int32) (h : fX7_often o0 p1 = some res) : MI l Z yX7_often cX7_often 4 .int 0 0 [.ref a0, .int p1] [(a0, .inl (zI Z, 12, .inl o0))] res [(a0, .inl (zI Z, 12, .inl o0))] := by
  refine MI_of (by decide +kernel) (Nat.le_of_ble_eq_true rfl) (fun {p e s m args below meth c} A R hR Q hQ C hr hlk => ?_)
  unfold fX7_often at h
  refine g_lv [0, 1] [(0, .ref a0), (1, .int p1)] rfl ?_
  refine g_iconst C 0 dX7_often_0 (by decide) ?_
  refine g_istore_n C dX7_often_1 rfl (by decide) [(2, .int 0), (0, .ref a0), (1, .int p1)] rfl ?_
  refine g_iconst C 0 dX7_often_2 (by decide) ?_
  refine g_istore_n C dX7_often_3 rfl (by decide) [(3, .int 0), (2, .int 0), (0, .ref a0), (1, .int p1)] rfl ?_
  refine g_lv [2, 3, 1, 0] [(0, .ref a0), (1, .int p1), (2, .int 0), (3, .int 0)] rfl ?_
  refine g_loop (lvf := fun v1 => [(0, .ref a0), (1, .int p1), (2, .int v1.1), (3, .int v1.2)]) (wsf := fun v1 => [(a0, .inl (zI Z, 12, .inl o0))]) h (fun v1 y1 h hk1 hx1 => ?_)
  refine g_eq (lv1 := [(0, .ref a0), (1, .int p1), (2, .int v1.1), (3, .int v1.2)]) (st1 := []) (ws1 := [(a0, .inl (zI Z, 12, .inl o0))]) rfl rfl rfl rfl ?_
  unfold fX7_often_L4 at h
  refine g_iload_n C dX7_often_4 rfl 3 rfl ?_
  refine g_aload_n C dX7_often_5 rfl 0 rfl ?_
  refine g_iconst C 1 dX7_often_6 (by decide) ?_
  refine g_iald C 0 rfl (by decide) dX7_often_7 ?_
  refine g_icmp_ge C 29 dX7_often_8 (by decide) (fun c2 => ?_) (fun c2 => ?_)
  · replace h := it_t c2 h
    obtain ⟨r3, h, hy⟩ := ex_of h
    rw [hx1 r3 hy] at h
    refine g_iload_n C dX7_often_29 rfl 2 rfl ?_
    obtain rfl := Option.some.inj h
    subst hQ
    exact g_iret C rfl hr hlk dX7_often_30 [0] rfl (by decide)
  · replace h := it_f c2 h
    refine g_iload_n C dX7_often_11 rfl 2 rfl ?_
    refine g_aload_n C dX7_often_12 rfl 0 rfl ?_
    refine g_iconst C 2 dX7_often_13 (by decide) ?_
    refine g_iload_n C dX7_often_14 rfl 3 rfl ?_
    refine g_iadd C dX7_often_15 ?_
    obtain ⟨hi4, h⟩ := ck_of h
    refine g_iald C 0 rfl hi4 dX7_often_16 ?_
    refine g_iload_n C dX7_often_17 rfl 1 rfl ?_
    refine g_ishr C dX7_often_18 ?_
    refine g_iconst C 1 dX7_often_19 (by decide) ?_
    refine g_iand C dX7_often_20 ?_
    refine g_iadd C dX7_often_21 ?_
    refine g_istore_n C dX7_often_22 rfl (by decide) [(2, .int (v1.1 + ((jshr (o0 (ix (2 + v1.2))) p1) &&& 1))), (0, .ref a0), (1, .int p1), (3, .int v1.2)] rfl ?_
    refine g_iinc C (v1.2 + 1) dX7_often_23 3 rfl rfl (by decide) [(3, .int (v1.2 + 1)), (2, .int (v1.1 + ((jshr (o0 (ix (2 + v1.2))) p1) &&& 1))), (0, .ref a0), (1, .int p1)] rfl ?_
    refine g_goto C 4 dX7_often_26 (by decide) ?_
    refine g_lv [2, 3, 1, 0] [(0, .ref a0), (1, .int p1), (2, .int (v1.1 + ((jshr (o0 (ix (2 + v1.2))) p1) &&& 1))), (3, .int (v1.2 + 1))] rfl ?_
    exact hk1 ((v1.1 + ((jshr (o0 (ix (2 + v1.2))) p1) &&& 1)), (v1.2 + 1)) (Option.some.inj h).symm

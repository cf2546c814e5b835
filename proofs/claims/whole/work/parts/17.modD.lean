def fX7_goThrough_L82 (rec : (OX7) → Int32 → Int32 → Option (OX7)) (o0 : OX7) (p1 : Int32) (p2 : Int32) (v2 : Int32 × Int32 × Int32 × (Nat → Int32) × (Nat → Int32)) : Option ((Int32 × Int32 × Int32 × (Nat → Int32) × (Nat → Int32)) ⊕ (OX7)) :=
  if ((q7_now o0) (ix 0)) ≤ v2.1 then (ex (some (s7_firstImage (s7_images (s7_found (s7_goes o0 v2.2.2.2.1) v2.2.1) v2.2.2.1) v2.2.2.2.2)))
  else ((fX7_has p2 v2.1).bind fun r5 =>
  (if r5 = 0 then (some (.inl ((v2.1 + 1), v2.2.1, v2.2.2.1, v2.2.2.2.1, v2.2.2.2.2)))
  else ((fX7_often (q7_now o0) p1).bind fun r8 =>
  ((fX7_often (q7_onto o0) v2.1).bind fun r10 =>
  (if r8 = r10 then (ck (okI p1 8) ((rec (s7_firstImage (s7_images (s7_found (s7_goes o0 (upd v2.2.2.2.1 (ix p1) v2.1)) v2.2.1) v2.2.2.1) v2.2.2.2.2) (p1 + 1) (p2 &&& ((jshl 1 v2.1) ^^^ (-1)))).bind fun r14 =>
  (some (.inl ((v2.1 + 1), (q7_found r14), (q7_images r14), (q7_goes r14), (q7_firstImage r14))))))
  else (some (.inl ((v2.1 + 1), v2.2.1, v2.2.2.1, v2.2.2.2.1, v2.2.2.2.2))))))))
def fX7_goThrough_J49 (o0 : OX7) (x19 : Nat → Int32) : Option (OX7) :=
  ck (okI (q7_gathered o0) 8) (some (s7_firstImage (s7_images (s7_found o0 ((q7_found o0) + 1)) ((q7_images o0) ||| (jshl 1 ((q7_goes o0) (ix (q7_gathered o0)))))) x19))
def fX7_goThrough_L26 (o0 : OX7) (p1 : Int32) (v22 : Int32 × (Nat → Int32)) : Option ((Int32 × (Nat → Int32)) ⊕ (OX7)) :=
  if p1 ≤ v22.1 then (ex (fX7_goThrough_J49 o0 v22.2))
  else (ck (okI v22.1 8) (ck (okI v22.1 8) (some (.inl ((v22.1 + 1), (upd v22.2 (ix v22.1) ((q7_goes o0) (ix v22.1))))))))
def fX7_goThrough_B (rec : (OX7) → Int32 → Int32 → Option (OX7)) (o0 : OX7) (p1 : Int32) (p2 : Int32) : Option (OX7) :=
  if p1 = ((q7_now o0) (ix 0)) then ((fX7_isMapped o0).bind fun r16 =>
  (if r16 = 0 then (some o0)
  else (if (q7_found o0) = 0 then (lp (fX7_goThrough_L26 o0 p1) lpN (0, (q7_firstImage o0)))
  else (fX7_goThrough_J49 o0 (q7_firstImage o0)))))
  else (lp (fX7_goThrough_L82 rec o0 p1 p2) lpN (0, (q7_found o0), (q7_images o0), (q7_goes o0), (q7_firstImage o0)))
def fX7_goThrough : Nat → (OX7) → Int32 → Int32 → Option (OX7)
  | 0 => fun _ _ _ => none
  | n + 1 => fX7_goThrough_B (fX7_goThrough n)
theorem myX7_goThrough : MYv yX7_goThrough cX7_goThrough 4 none 2 := ⟨mw_7_115, ms_81, mw_7_116, mw_1_9, ⟨by decide +kernel, by decide +kernel⟩, by decide +kernel⟩
set_option maxRecDepth 100000 in
set_option maxHeartbeats 4000000 in
theorem kX7_goThrough (l : Launch) (Z : GZ) : ∀ (n : Nat) (a0 a0_buffer a0_now a0_made a0_history a0_saved a0_closed a0_faces a0_rankOf a0_placeOf a0_counted a0_steps a0_onto a0_goes a0_firstImage : Nat) (o0 : OX7) (p1 : Int32) (p2 : Int32) (res : OX7) (h : fX7_goThrough n o0 p1 p2 = some res), MV l Z yX7_goThrough cX7_goThrough 4 (n + 3) (n * 23 + 68) [.ref a0, .int p1, .int p2] [(a0, .inr (7, [.int (q7_thrown o0), .ref a0_buffer, .int (q7_length o0), .int (q7_at o0), .int (q7_from o0), .int (q7_kind o0), .int (q7_number o0), .int (q7_wrong o0), .ref a0_now, .ref a0_made, .ref a0_history, .ref a0_saved, .int (q7_entries o0), .int (q7_isSaved o0), .ref a0_closed, .ref a0_faces, .ref a0_rankOf, .ref a0_placeOf, .int (q7_faceMany o0), .int (q7_isLaid o0), .ref a0_counted, .ref a0_steps, .ref a0_onto, .ref a0_goes, .int (q7_found o0), .int (q7_images o0), .ref a0_firstImage, .int (q7_gathered o0)])), (a0_now, .inl (zI Z, 12, .inl (q7_now o0))), (a0_onto, .inl (zI Z, 12, .inl (q7_onto o0))), (a0_goes, .inl (zI Z, 8, .inl (q7_goes o0))), (a0_firstImage, .inl (zI Z, 8, .inl (q7_firstImage o0)))] [(a0, .inr (7, [.int (q7_thrown o0), .ref a0_buffer, .int (q7_length o0), .int (q7_at o0), .int (q7_from o0), .int (q7_kind o0), .int (q7_number o0), .int (q7_wrong o0), .ref a0_now, .ref a0_made, .ref a0_history, .ref a0_saved, .int (q7_entries o0), .int (q7_isSaved o0), .ref a0_closed, .ref a0_faces, .ref a0_rankOf, .ref a0_placeOf, .int (q7_faceMany o0), .int (q7_isLaid o0), .ref a0_counted, .ref a0_steps, .ref a0_onto, .ref a0_goes, .int (q7_found res), .int (q7_images res), .ref a0_firstImage, .int (q7_gathered o0)])), (a0_now, .inl (zI Z, 12, .inl (q7_now o0))), (a0_onto, .inl (zI Z, 12, .inl (q7_onto o0))), (a0_goes, .inl (zI Z, 8, .inl (q7_goes res))), (a0_firstImage, .inl (zI Z, 8, .inl (q7_firstImage res)))] := by
  intro n
  induction n with
  | zero => intro a0 a0_buffer a0_now a0_made a0_history a0_saved a0_closed a0_faces a0_rankOf a0_placeOf a0_counted a0_steps a0_onto a0_goes a0_firstImage o0 p1 p2 res h; cases h
  | succ n ih =>
  intro a0 a0_buffer a0_now a0_made a0_history a0_saved a0_closed a0_faces a0_rankOf a0_placeOf a0_counted a0_steps a0_onto a0_goes a0_firstImage o0 p1 p2 res h
  have h : fX7_goThrough_B (fX7_goThrough n) o0 p1 p2 = some res := h
  refine MV_of (by decide +kernel) (Nat.le_of_ble_eq_true rfl) (fun {p e s m args below meth c} A R hR Q hQ C hr hlk => ?_)
  unfold fX7_goThrough_B at h
  refine g_lv [0, 1, 2] [(0, .ref a0), (1, .int p1), (2, .int p2)] rfl ?_
  refine g_iload_n C dX7_goThrough_0 rfl 1 rfl ?_
  refine g_aload_n C dX7_goThrough_1 rfl 0 rfl ?_
  refine g_get C 7 13 gin7 0 rfl rfl 8 (by decide) mw_5_93 rfl rfl dX7_goThrough_2 ?_
  refine g_iconst C 0 dX7_goThrough_5 (by decide) ?_
  refine g_iald C 1 rfl (by decide) dX7_goThrough_6 ?_
  refine g_icmp_ne C 80 dX7_goThrough_7 (by decide) (fun c1 => ?_) (fun c1 => ?_)
  · replace h := it_f c1 h
    refine g_iconst C 0 dX7_goThrough_80 (by decide) ?_
    refine g_istore_n C dX7_goThrough_81 rfl (by decide) [(3, .int 0), (0, .ref a0), (1, .int p1), (2, .int p2)] rfl ?_
    refine g_lv [1, 2, 3, 0] [(0, .ref a0), (1, .int p1), (2, .int p2), (3, .int 0)] rfl ?_
    refine g_loop (lvf := fun v2 => [(0, .ref a0), (1, .int p1), (2, .int p2), (3, .int v2.1)]) (wsf := fun v2 => [(a0, .inr (7, [.int (q7_thrown o0), .ref a0_buffer, .int (q7_length o0), .int (q7_at o0), .int (q7_from o0), .int (q7_kind o0), .int (q7_number o0), .int (q7_wrong o0), .ref a0_now, .ref a0_made, .ref a0_history, .ref a0_saved, .int (q7_entries o0), .int (q7_isSaved o0), .ref a0_closed, .ref a0_faces, .ref a0_rankOf, .ref a0_placeOf, .int (q7_faceMany o0), .int (q7_isLaid o0), .ref a0_counted, .ref a0_steps, .ref a0_onto, .ref a0_goes, .int v2.2.1, .int v2.2.2.1, .ref a0_firstImage, .int (q7_gathered o0)])), (a0_now, .inl (zI Z, 12, .inl (q7_now o0))), (a0_onto, .inl (zI Z, 12, .inl (q7_onto o0))), (a0_goes, .inl (zI Z, 8, .inl v2.2.2.2.1)), (a0_firstImage, .inl (zI Z, 8, .inl v2.2.2.2.2))]) h (fun v2 y1 h hk1 hx1 => ?_)
    refine g_eq (lv1 := [(0, .ref a0), (1, .int p1), (2, .int p2), (3, .int v2.1)]) (st1 := []) (ws1 := [(a0, .inr (7, [.int (q7_thrown o0), .ref a0_buffer, .int (q7_length o0), .int (q7_at o0), .int (q7_from o0), .int (q7_kind o0), .int (q7_number o0), .int (q7_wrong o0), .ref a0_now, .ref a0_made, .ref a0_history, .ref a0_saved, .int (q7_entries o0), .int (q7_isSaved o0), .ref a0_closed, .ref a0_faces, .ref a0_rankOf, .ref a0_placeOf, .int (q7_faceMany o0), .int (q7_isLaid o0), .ref a0_counted, .ref a0_steps, .ref a0_onto, .ref a0_goes, .int v2.2.1, .int v2.2.2.1, .ref a0_firstImage, .int (q7_gathered o0)])), (a0_now, .inl (zI Z, 12, .inl (q7_now o0))), (a0_onto, .inl (zI Z, 12, .inl (q7_onto o0))), (a0_goes, .inl (zI Z, 8, .inl v2.2.2.2.1)), (a0_firstImage, .inl (zI Z, 8, .inl v2.2.2.2.2))]) rfl rfl rfl rfl ?_
    unfold fX7_goThrough_L82 at h
    refine g_iload_n C dX7_goThrough_82 rfl 3 rfl ?_
    refine g_aload_n C dX7_goThrough_83 rfl 0 rfl ?_
    refine g_get C 7 13 gin7 0 rfl rfl 8 (by decide) mw_5_93 rfl rfl dX7_goThrough_84 ?_
    refine g_iconst C 0 dX7_goThrough_87 (by decide) ?_
    refine g_iald C 1 rfl (by decide) dX7_goThrough_88 ?_
    refine g_icmp_ge C 146 dX7_goThrough_89 (by decide) (fun c3 => ?_) (fun c3 => ?_)
    · replace h := it_t c3 h
      obtain ⟨r4, h, hy⟩ := ex_of h
      rw [hx1 r4 hy] at h
      obtain rfl := Option.some.inj h
      subst hQ
      exact g_vret C hr hlk dX7_goThrough_146 [0, 1, 2, 3, 4] rfl (by decide)
    · replace h := it_f c3 h
      refine g_iload_n C dX7_goThrough_92 rfl 2 rfl ?_
      refine g_iload_n C dX7_goThrough_93 rfl 3 rfl ?_
      obtain ⟨r5, hr6, h⟩ := bd_of h
      refine g_callSi C (kX7_has l Z p2 v2.1 r5 hr6) myX7_has 165 mw_6_45 rfl [] [0, 1, 2, 3, 4] [0, 1, 2, 3, 4] (wr := [(a0, .inr (7, [.int (q7_thrown o0), .ref a0_buffer, .int (q7_length o0), .int (q7_at o0), .int (q7_from o0), .int (q7_kind o0), .int (q7_number o0), .int (q7_wrong o0), .ref a0_now, .ref a0_made, .ref a0_history, .ref a0_saved, .int (q7_entries o0), .int (q7_isSaved o0), .ref a0_closed, .ref a0_faces, .ref a0_rankOf, .ref a0_placeOf, .int (q7_faceMany o0), .int (q7_isLaid o0), .ref a0_counted, .ref a0_steps, .ref a0_onto, .ref a0_goes, .int v2.2.1, .int v2.2.2.1, .ref a0_firstImage, .int (q7_gathered o0)])), (a0_now, .inl (zI Z, 12, .inl (q7_now o0))), (a0_onto, .inl (zI Z, 12, .inl (q7_onto o0))), (a0_goes, .inl (zI Z, 8, .inl v2.2.2.2.1)), (a0_firstImage, .inl (zI Z, 8, .inl v2.2.2.2.2))]) rfl rfl (by decide) (by decide) (by decide) [(a0, .inr (7, [.int (q7_thrown o0), .ref a0_buffer, .int (q7_length o0), .int (q7_at o0), .int (q7_from o0), .int (q7_kind o0), .int (q7_number o0), .int (q7_wrong o0), .ref a0_now, .ref a0_made, .ref a0_history, .ref a0_saved, .int (q7_entries o0), .int (q7_isSaved o0), .ref a0_closed, .ref a0_faces, .ref a0_rankOf, .ref a0_placeOf, .int (q7_faceMany o0), .int (q7_isLaid o0), .ref a0_counted, .ref a0_steps, .ref a0_onto, .ref a0_goes, .int v2.2.1, .int v2.2.2.1, .ref a0_firstImage, .int (q7_gathered o0)])), (a0_now, .inl (zI Z, 12, .inl (q7_now o0))), (a0_onto, .inl (zI Z, 12, .inl (q7_onto o0))), (a0_goes, .inl (zI Z, 8, .inl v2.2.2.2.1)), (a0_firstImage, .inl (zI Z, 8, .inl v2.2.2.2.2))] rfl (by decide) (Nat.le_of_ble_eq_true rfl) (by rw [hR]; exact (by omega : 0 + 1 ≤ n + 1 + 3)) (by rw [hR]; exact (by omega : 8 + (2 + 11) + 0 ≤ (n + 1) * 23 + 68)) ⟨by rw [hR]; exact Nat.le_of_ble_eq_true rfl, by rw [hR]; exact Nat.le_of_ble_eq_true rfl⟩ rfl dX7_goThrough_94 ?_
      refine g_if_eq C 140 dX7_goThrough_97 (by decide) (fun c7 => ?_) (fun c7 => ?_)
      · replace h := it_t c7 h
        refine g_iinc C (v2.1 + 1) dX7_goThrough_140 3 rfl rfl (by decide) [(3, .int (v2.1 + 1)), (0, .ref a0), (1, .int p1), (2, .int p2)] rfl ?_
        refine g_goto C 82 dX7_goThrough_143 (by decide) ?_
        refine g_lv [1, 2, 3, 0] [(0, .ref a0), (1, .int p1), (2, .int p2), (3, .int (v2.1 + 1))] rfl ?_
        exact hk1 ((v2.1 + 1), v2.2.1, v2.2.2.1, v2.2.2.2.1, v2.2.2.2.2) (Option.some.inj h).symm
      · replace h := it_f c7 h
        refine g_aload_n C dX7_goThrough_100 rfl 0 rfl ?_
        refine g_get C 7 13 gin7 0 rfl rfl 8 (by decide) mw_5_93 rfl rfl dX7_goThrough_101 ?_
        refine g_iload_n C dX7_goThrough_104 rfl 1 rfl ?_
        obtain ⟨r8, hr9, h⟩ := bd_of h
        refine g_callSi C (kX7_often l Z a0_now (q7_now o0) p1 r8 hr9) myX7_often 316 mw_7_125 rfl [1] [0, 2, 3, 4] [0, 4, 1, 2, 3] (wr := [(a0, .inr (7, [.int (q7_thrown o0), .ref a0_buffer, .int (q7_length o0), .int (q7_at o0), .int (q7_from o0), .int (q7_kind o0), .int (q7_number o0), .int (q7_wrong o0), .ref a0_now, .ref a0_made, .ref a0_history, .ref a0_saved, .int (q7_entries o0), .int (q7_isSaved o0), .ref a0_closed, .ref a0_faces, .ref a0_rankOf, .ref a0_placeOf, .int (q7_faceMany o0), .int (q7_isLaid o0), .ref a0_counted, .ref a0_steps, .ref a0_onto, .ref a0_goes, .int v2.2.1, .int v2.2.2.1, .ref a0_firstImage, .int (q7_gathered o0)])), (a0_onto, .inl (zI Z, 12, .inl (q7_onto o0))), (a0_goes, .inl (zI Z, 8, .inl v2.2.2.2.1)), (a0_firstImage, .inl (zI Z, 8, .inl v2.2.2.2.2))]) rfl rfl (by decide) (by decide) (by decide) [(a0, .inr (7, [.int (q7_thrown o0), .ref a0_buffer, .int (q7_length o0), .int (q7_at o0), .int (q7_from o0), .int (q7_kind o0), .int (q7_number o0), .int (q7_wrong o0), .ref a0_now, .ref a0_made, .ref a0_history, .ref a0_saved, .int (q7_entries o0), .int (q7_isSaved o0), .ref a0_closed, .ref a0_faces, .ref a0_rankOf, .ref a0_placeOf, .int (q7_faceMany o0), .int (q7_isLaid o0), .ref a0_counted, .ref a0_steps, .ref a0_onto, .ref a0_goes, .int v2.2.1, .int v2.2.2.1, .ref a0_firstImage, .int (q7_gathered o0)])), (a0_now, .inl (zI Z, 12, .inl (q7_now o0))), (a0_onto, .inl (zI Z, 12, .inl (q7_onto o0))), (a0_goes, .inl (zI Z, 8, .inl v2.2.2.2.1)), (a0_firstImage, .inl (zI Z, 8, .inl v2.2.2.2.2))] rfl (by decide) (Nat.le_of_ble_eq_true rfl) (by rw [hR]; exact (by omega : 0 + 1 ≤ n + 1 + 3)) (by rw [hR]; exact (by omega : 8 + (4 + 11) + 0 ≤ (n + 1) * 23 + 68)) ⟨by rw [hR]; exact Nat.le_of_ble_eq_true rfl, by rw [hR]; exact Nat.le_of_ble_eq_true rfl⟩ rfl dX7_goThrough_105 ?_
        refine g_aload_n C dX7_goThrough_108 rfl 0 rfl ?_
        refine g_get C 7 43 gin7 0 rfl rfl 22 (by decide) mw_5_107 rfl rfl dX7_goThrough_109 ?_
        refine g_iload_n C dX7_goThrough_112 rfl 3 rfl ?_
        obtain ⟨r10, hr11, h⟩ := bd_of h
        refine g_callSi C (kX7_often l Z a0_onto (q7_onto o0) v2.1 r10 hr11) myX7_often 316 mw_7_125 rfl [2] [0, 1, 3, 4] [0, 1, 4, 2, 3] (wr := [(a0, .inr (7, [.int (q7_thrown o0), .ref a0_buffer, .int (q7_length o0), .int (q7_at o0), .int (q7_from o0), .int (q7_kind o0), .int (q7_number o0), .int (q7_wrong o0), .ref a0_now, .ref a0_made, .ref a0_history, .ref a0_saved, .int (q7_entries o0), .int (q7_isSaved o0), .ref a0_closed, .ref a0_faces, .ref a0_rankOf, .ref a0_placeOf, .int (q7_faceMany o0), .int (q7_isLaid o0), .ref a0_counted, .ref a0_steps, .ref a0_onto, .ref a0_goes, .int v2.2.1, .int v2.2.2.1, .ref a0_firstImage, .int (q7_gathered o0)])), (a0_now, .inl (zI Z, 12, .inl (q7_now o0))), (a0_goes, .inl (zI Z, 8, .inl v2.2.2.2.1)), (a0_firstImage, .inl (zI Z, 8, .inl v2.2.2.2.2))]) rfl rfl (by decide) (by decide) (by decide) [(a0, .inr (7, [.int (q7_thrown o0), .ref a0_buffer, .int (q7_length o0), .int (q7_at o0), .int (q7_from o0), .int (q7_kind o0), .int (q7_number o0), .int (q7_wrong o0), .ref a0_now, .ref a0_made, .ref a0_history, .ref a0_saved, .int (q7_entries o0), .int (q7_isSaved o0), .ref a0_closed, .ref a0_faces, .ref a0_rankOf, .ref a0_placeOf, .int (q7_faceMany o0), .int (q7_isLaid o0), .ref a0_counted, .ref a0_steps, .ref a0_onto, .ref a0_goes, .int v2.2.1, .int v2.2.2.1, .ref a0_firstImage, .int (q7_gathered o0)])), (a0_now, .inl (zI Z, 12, .inl (q7_now o0))), (a0_onto, .inl (zI Z, 12, .inl (q7_onto o0))), (a0_goes, .inl (zI Z, 8, .inl v2.2.2.2.1)), (a0_firstImage, .inl (zI Z, 8, .inl v2.2.2.2.2))] rfl (by decide) (Nat.le_of_ble_eq_true rfl) (by rw [hR]; exact (by omega : 0 + 1 ≤ n + 1 + 3)) (by rw [hR]; exact (by omega : 8 + (4 + 11) + 0 ≤ (n + 1) * 23 + 68)) ⟨by rw [hR]; exact Nat.le_of_ble_eq_true rfl, by rw [hR]; exact Nat.le_of_ble_eq_true rfl⟩ rfl dX7_goThrough_113 ?_
        refine g_icmp_ne C 140 dX7_goThrough_116 (by decide) (fun c12 => ?_) (fun c12 => ?_)
        · replace h := it_f c12 h
          refine g_iinc C (v2.1 + 1) dX7_goThrough_140 3 rfl rfl (by decide) [(3, .int (v2.1 + 1)), (0, .ref a0), (1, .int p1), (2, .int p2)] rfl ?_
          refine g_goto C 82 dX7_goThrough_143 (by decide) ?_
          refine g_lv [1, 2, 3, 0] [(0, .ref a0), (1, .int p1), (2, .int p2), (3, .int (v2.1 + 1))] rfl ?_
          exact hk1 ((v2.1 + 1), v2.2.1, v2.2.2.1, v2.2.2.2.1, v2.2.2.2.2) (Option.some.inj h).symm
        · replace h := it_t c12 h
          refine g_aload_n C dX7_goThrough_119 rfl 0 rfl ?_
          refine g_get C 7 46 gin7 0 rfl rfl 23 (by decide) mw_5_108 rfl rfl dX7_goThrough_120 ?_
          refine g_iload_n C dX7_goThrough_123 rfl 1 rfl ?_
          refine g_iload_n C dX7_goThrough_124 rfl 3 rfl ?_
          obtain ⟨hi13, h⟩ := ck_of h
          refine g_iast C 3 rfl hi13 [(a0, .inr (7, [.int (q7_thrown o0), .ref a0_buffer, .int (q7_length o0), .int (q7_at o0), .int (q7_from o0), .int (q7_kind o0), .int (q7_number o0), .int (q7_wrong o0), .ref a0_now, .ref a0_made, .ref a0_history, .ref a0_saved, .int (q7_entries o0), .int (q7_isSaved o0), .ref a0_closed, .ref a0_faces, .ref a0_rankOf, .ref a0_placeOf, .int (q7_faceMany o0), .int (q7_isLaid o0), .ref a0_counted, .ref a0_steps, .ref a0_onto, .ref a0_goes, .int v2.2.1, .int v2.2.2.1, .ref a0_firstImage, .int (q7_gathered o0)])), (a0_now, .inl (zI Z, 12, .inl (q7_now o0))), (a0_onto, .inl (zI Z, 12, .inl (q7_onto o0))), (a0_goes, .inl (zI Z, 8, .inl (upd v2.2.2.2.1 (ix p1) v2.1))), (a0_firstImage, .inl (zI Z, 8, .inl v2.2.2.2.2))] rfl dX7_goThrough_125 ?_
          refine g_aload_n C dX7_goThrough_126 rfl 0 rfl ?_
          refine g_iload_n C dX7_goThrough_127 rfl 1 rfl ?_
          refine g_iconst C 1 dX7_goThrough_128 (by decide) ?_
          refine g_iadd C dX7_goThrough_129 ?_
          refine g_iload_n C dX7_goThrough_130 rfl 2 rfl ?_
          refine g_iconst C 1 dX7_goThrough_131 (by decide) ?_
          refine g_iload_n C dX7_goThrough_132 rfl 3 rfl ?_
          refine g_ishl C dX7_goThrough_133 ?_
          refine g_iconst C (-1) dX7_goThrough_134 (by decide) ?_
          refine g_ixor C dX7_goThrough_135 ?_
          refine g_iand C dX7_goThrough_136 ?_
          obtain ⟨r14, hr15, h⟩ := bd_of h
          refine g_callVv C (ih a0 a0_buffer a0_now a0_made a0_history a0_saved a0_closed a0_faces a0_rankOf a0_placeOf a0_counted a0_steps a0_onto a0_goes a0_firstImage (s7_firstImage (s7_images (s7_found (s7_goes o0 (upd v2.2.2.2.1 (ix p1) v2.1)) v2.2.1) v2.2.2.1) v2.2.2.2.2) (p1 + 1) (p2 &&& ((jshl 1 v2.1) ^^^ (-1))) r14 hr15) 0 rfl (ci := 7) rfl rfl myX7_goThrough 320 mw_7_113 rfl [0, 1, 2, 3, 4] [] [0, 1, 2, 3, 4] (wr := []) rfl rfl (by decide) (by decide) (by decide) [(a0, .inr (7, [.int (q7_thrown o0), .ref a0_buffer, .int (q7_length o0), .int (q7_at o0), .int (q7_from o0), .int (q7_kind o0), .int (q7_number o0), .int (q7_wrong o0), .ref a0_now, .ref a0_made, .ref a0_history, .ref a0_saved, .int (q7_entries o0), .int (q7_isSaved o0), .ref a0_closed, .ref a0_faces, .ref a0_rankOf, .ref a0_placeOf, .int (q7_faceMany o0), .int (q7_isLaid o0), .ref a0_counted, .ref a0_steps, .ref a0_onto, .ref a0_goes, .int (q7_found r14), .int (q7_images r14), .ref a0_firstImage, .int (q7_gathered o0)])), (a0_now, .inl (zI Z, 12, .inl (q7_now o0))), (a0_onto, .inl (zI Z, 12, .inl (q7_onto o0))), (a0_goes, .inl (zI Z, 8, .inl (q7_goes r14))), (a0_firstImage, .inl (zI Z, 8, .inl (q7_firstImage r14)))] rfl (by decide) (Nat.le_of_ble_eq_true rfl) (by rw [hR]; exact (by omega : n + 3 + 1 ≤ n + 1 + 3)) (by rw [hR]; exact (by omega : 8 + (4 + 11) + (n * 23 + 68) ≤ (n + 1) * 23 + 68)) ⟨by rw [hR]; exact Nat.le_of_ble_eq_true rfl, by rw [hR]; exact Nat.le_of_ble_eq_true rfl⟩ rfl dX7_goThrough_137 ?_
          refine g_iinc C (v2.1 + 1) dX7_goThrough_140 3 rfl rfl (by decide) [(3, .int (v2.1 + 1)), (0, .ref a0), (1, .int p1), (2, .int p2)] rfl ?_
          refine g_goto C 82 dX7_goThrough_143 (by decide) ?_
          refine g_lv [1, 2, 3, 0] [(0, .ref a0), (1, .int p1), (2, .int p2), (3, .int (v2.1 + 1))] rfl ?_
          exact hk1 ((v2.1 + 1), (q7_found r14), (q7_images r14), (q7_goes r14), (q7_firstImage r14)) (Option.some.inj h).symm
  · replace h := it_t c1 h
    refine g_aload_n C dX7_goThrough_10 rfl 0 rfl ?_
    obtain ⟨r16, hr17, h⟩ := bd_of h
    refine g_callVi C (kX7_isMapped l Z a0 a0_buffer a0_now a0_made a0_history a0_saved a0_closed a0_faces a0_rankOf a0_placeOf a0_counted a0_steps a0_onto a0_goes a0_firstImage o0 r16 hr17) 0 rfl (ci := 7) rfl rfl myX7_isMapped 304 mw_7_117 rfl [0, 1, 2, 3] [4] [1, 2, 3, 4, 0] (wr := [(a0_firstImage, .inl (zI Z, 8, .inl (q7_firstImage o0)))]) rfl rfl (by decide) (by decide) (by decide) [(a0, .inr (7, [.int (q7_thrown o0), .ref a0_buffer, .int (q7_length o0), .int (q7_at o0), .int (q7_from o0), .int (q7_kind o0), .int (q7_number o0), .int (q7_wrong o0), .ref a0_now, .ref a0_made, .ref a0_history, .ref a0_saved, .int (q7_entries o0), .int (q7_isSaved o0), .ref a0_closed, .ref a0_faces, .ref a0_rankOf, .ref a0_placeOf, .int (q7_faceMany o0), .int (q7_isLaid o0), .ref a0_counted, .ref a0_steps, .ref a0_onto, .ref a0_goes, .int (q7_found o0), .int (q7_images o0), .ref a0_firstImage, .int (q7_gathered o0)])), (a0_now, .inl (zI Z, 12, .inl (q7_now o0))), (a0_onto, .inl (zI Z, 12, .inl (q7_onto o0))), (a0_goes, .inl (zI Z, 8, .inl (q7_goes o0))), (a0_firstImage, .inl (zI Z, 8, .inl (q7_firstImage o0)))] rfl (by decide) (Nat.le_of_ble_eq_true rfl) (by rw [hR]; exact (by omega : 2 + 1 ≤ n + 1 + 3)) (by rw [hR]; exact (by omega : 8 + (5 + 11) + 44 ≤ (n + 1) * 23 + 68)) ⟨by rw [hR]; exact Nat.le_of_ble_eq_true rfl, by rw [hR]; exact Nat.le_of_ble_eq_true rfl⟩ rfl dX7_goThrough_11 ?_
    refine g_if_eq C 79 dX7_goThrough_14 (by decide) (fun c18 => ?_) (fun c18 => ?_)
    · replace h := it_t c18 h
      obtain rfl := Option.some.inj h
      subst hQ
      exact g_vret C hr hlk dX7_goThrough_79 [0, 1, 2, 3, 4] rfl (by decide)
    · replace h := it_f c18 h
      refine g_aload_n C dX7_goThrough_17 rfl 0 rfl ?_
      refine g_get C 7 307 gin7 0 rfl rfl 24 (by decide) mw_5_109 rfl rfl dX7_goThrough_18 ?_
      have hj49 : ∀ (x19 : Nat → Int32), fX7_goThrough_J49 o0 x19 = some res → Gw p l e R s m args below meth c 4 Z A Q 0 0 49 [(0, .ref a0)] [] [(a0, .inr (7, [.int (q7_thrown o0), .ref a0_buffer, .int (q7_length o0), .int (q7_at o0), .int (q7_from o0), .int (q7_kind o0), .int (q7_number o0), .int (q7_wrong o0), .ref a0_now, .ref a0_made, .ref a0_history, .ref a0_saved, .int (q7_entries o0), .int (q7_isSaved o0), .ref a0_closed, .ref a0_faces, .ref a0_rankOf, .ref a0_placeOf, .int (q7_faceMany o0), .int (q7_isLaid o0), .ref a0_counted, .ref a0_steps, .ref a0_onto, .ref a0_goes, .int (q7_found o0), .int (q7_images o0), .ref a0_firstImage, .int (q7_gathered o0)])), (a0_now, .inl (zI Z, 12, .inl (q7_now o0))), (a0_onto, .inl (zI Z, 12, .inl (q7_onto o0))), (a0_goes, .inl (zI Z, 8, .inl (q7_goes o0))), (a0_firstImage, .inl (zI Z, 8, .inl x19))] := by
        intro x19 h
        unfold fX7_goThrough_J49 at h
        refine g_aload_n C dX7_goThrough_49 rfl 0 rfl ?_
        refine g_dup C dX7_goThrough_50 rfl ?_
        refine g_get C 7 307 gin7 0 rfl rfl 24 (by decide) mw_5_109 rfl rfl dX7_goThrough_51 ?_
        refine g_iconst C 1 dX7_goThrough_54 (by decide) ?_
        refine g_iadd C dX7_goThrough_55 ?_
        refine g_put C 7 307 gin7 tyX7 tyX7_ok nmX7 0 rfl rfl 24 (by decide) mw_5_109 rfl rfl (ty := .int) (by decide +kernel) rfl rfl (Nat.le_of_ble_eq_true rfl) [(a0, .inr (7, [.int (q7_thrown o0), .ref a0_buffer, .int (q7_length o0), .int (q7_at o0), .int (q7_from o0), .int (q7_kind o0), .int (q7_number o0), .int (q7_wrong o0), .ref a0_now, .ref a0_made, .ref a0_history, .ref a0_saved, .int (q7_entries o0), .int (q7_isSaved o0), .ref a0_closed, .ref a0_faces, .ref a0_rankOf, .ref a0_placeOf, .int (q7_faceMany o0), .int (q7_isLaid o0), .ref a0_counted, .ref a0_steps, .ref a0_onto, .ref a0_goes, .int ((q7_found o0) + 1), .int (q7_images o0), .ref a0_firstImage, .int (q7_gathered o0)])), (a0_now, .inl (zI Z, 12, .inl (q7_now o0))), (a0_onto, .inl (zI Z, 12, .inl (q7_onto o0))), (a0_goes, .inl (zI Z, 8, .inl (q7_goes o0))), (a0_firstImage, .inl (zI Z, 8, .inl x19))] rfl dX7_goThrough_56 ?_
        refine g_aload_n C dX7_goThrough_59 rfl 0 rfl ?_
        refine g_dup C dX7_goThrough_60 rfl ?_
        refine g_get C 7 310 gin7 0 rfl rfl 25 (by decide) mw_5_110 rfl rfl dX7_goThrough_61 ?_
        refine g_iconst C 1 dX7_goThrough_64 (by decide) ?_
        refine g_aload_n C dX7_goThrough_65 rfl 0 rfl ?_
        refine g_get C 7 46 gin7 0 rfl rfl 23 (by decide) mw_5_108 rfl rfl dX7_goThrough_66 ?_
        refine g_aload_n C dX7_goThrough_69 rfl 0 rfl ?_
        refine g_get C 7 313 gin7 0 rfl rfl 27 (by decide) mw_5_112 rfl rfl dX7_goThrough_70 ?_
        obtain ⟨hi20, h⟩ := ck_of h
        refine g_iald C 3 rfl hi20 dX7_goThrough_73 ?_
        refine g_ishl C dX7_goThrough_74 ?_
        refine g_ior C dX7_goThrough_75 ?_
        refine g_put C 7 310 gin7 tyX7 tyX7_ok nmX7 0 rfl rfl 25 (by decide) mw_5_110 rfl rfl (ty := .int) (by decide +kernel) rfl rfl (Nat.le_of_ble_eq_true rfl) [(a0, .inr (7, [.int (q7_thrown o0), .ref a0_buffer, .int (q7_length o0), .int (q7_at o0), .int (q7_from o0), .int (q7_kind o0), .int (q7_number o0), .int (q7_wrong o0), .ref a0_now, .ref a0_made, .ref a0_history, .ref a0_saved, .int (q7_entries o0), .int (q7_isSaved o0), .ref a0_closed, .ref a0_faces, .ref a0_rankOf, .ref a0_placeOf, .int (q7_faceMany o0), .int (q7_isLaid o0), .ref a0_counted, .ref a0_steps, .ref a0_onto, .ref a0_goes, .int ((q7_found o0) + 1), .int ((q7_images o0) ||| (jshl 1 ((q7_goes o0) (ix (q7_gathered o0))))), .ref a0_firstImage, .int (q7_gathered o0)])), (a0_now, .inl (zI Z, 12, .inl (q7_now o0))), (a0_onto, .inl (zI Z, 12, .inl (q7_onto o0))), (a0_goes, .inl (zI Z, 8, .inl (q7_goes o0))), (a0_firstImage, .inl (zI Z, 8, .inl x19))] rfl dX7_goThrough_76 ?_
        obtain rfl := Option.some.inj h
        subst hQ
        exact g_vret C hr hlk dX7_goThrough_79 [0, 1, 2, 3, 4] rfl (by decide)
      refine g_if_ne C 49 dX7_goThrough_21 (by decide) (fun c21 => ?_) (fun c21 => ?_)
      · replace h := it_f c21 h
        refine g_lv [0] [(0, .ref a0)] rfl ?_
        exact hj49 (q7_firstImage o0) h
      · replace h := it_t c21 h
        refine g_iconst C 0 dX7_goThrough_24 (by decide) ?_
        refine g_istore_n C dX7_goThrough_25 rfl (by decide) [(3, .int 0), (0, .ref a0), (1, .int p1), (2, .int p2)] rfl ?_
        refine g_lv [1, 2, 0] [(0, .ref a0), (1, .int p1), (3, .int 0)] rfl ?_
        refine g_loop (lvf := fun v22 => [(0, .ref a0), (1, .int p1), (3, .int v22.1)]) (wsf := fun v22 => [(a0, .inr (7, [.int (q7_thrown o0), .ref a0_buffer, .int (q7_length o0), .int (q7_at o0), .int (q7_from o0), .int (q7_kind o0), .int (q7_number o0), .int (q7_wrong o0), .ref a0_now, .ref a0_made, .ref a0_history, .ref a0_saved, .int (q7_entries o0), .int (q7_isSaved o0), .ref a0_closed, .ref a0_faces, .ref a0_rankOf, .ref a0_placeOf, .int (q7_faceMany o0), .int (q7_isLaid o0), .ref a0_counted, .ref a0_steps, .ref a0_onto, .ref a0_goes, .int (q7_found o0), .int (q7_images o0), .ref a0_firstImage, .int (q7_gathered o0)])), (a0_now, .inl (zI Z, 12, .inl (q7_now o0))), (a0_onto, .inl (zI Z, 12, .inl (q7_onto o0))), (a0_goes, .inl (zI Z, 8, .inl (q7_goes o0))), (a0_firstImage, .inl (zI Z, 8, .inl v22.2))]) h (fun v22 y1 h hk1 hx1 => ?_)
        refine g_eq (lv1 := [(0, .ref a0), (1, .int p1), (3, .int v22.1)]) (st1 := []) (ws1 := [(a0, .inr (7, [.int (q7_thrown o0), .ref a0_buffer, .int (q7_length o0), .int (q7_at o0), .int (q7_from o0), .int (q7_kind o0), .int (q7_number o0), .int (q7_wrong o0), .ref a0_now, .ref a0_made, .ref a0_history, .ref a0_saved, .int (q7_entries o0), .int (q7_isSaved o0), .ref a0_closed, .ref a0_faces, .ref a0_rankOf, .ref a0_placeOf, .int (q7_faceMany o0), .int (q7_isLaid o0), .ref a0_counted, .ref a0_steps, .ref a0_onto, .ref a0_goes, .int (q7_found o0), .int (q7_images o0), .ref a0_firstImage, .int (q7_gathered o0)])), (a0_now, .inl (zI Z, 12, .inl (q7_now o0))), (a0_onto, .inl (zI Z, 12, .inl (q7_onto o0))), (a0_goes, .inl (zI Z, 8, .inl (q7_goes o0))), (a0_firstImage, .inl (zI Z, 8, .inl v22.2))]) rfl rfl rfl rfl ?_
        unfold fX7_goThrough_L26 at h
        refine g_iload_n C dX7_goThrough_26 rfl 2 rfl ?_
        refine g_iload_n C dX7_goThrough_27 rfl 1 rfl ?_
        refine g_icmp_ge C 49 dX7_goThrough_28 (by decide) (fun c23 => ?_) (fun c23 => ?_)
        · replace h := it_t c23 h
          obtain ⟨r24, h, hy⟩ := ex_of h
          rw [hx1 r24 hy] at h
          refine g_lv [0] [(0, .ref a0)] rfl ?_
          exact hj49 v22.2 h
        · replace h := it_f c23 h
          refine g_aload_n C dX7_goThrough_31 rfl 0 rfl ?_
          refine g_get C 7 49 gin7 0 rfl rfl 26 (by decide) mw_5_111 rfl rfl dX7_goThrough_32 ?_
          refine g_iload_n C dX7_goThrough_35 rfl 2 rfl ?_
          refine g_aload_n C dX7_goThrough_36 rfl 0 rfl ?_
          refine g_get C 7 46 gin7 0 rfl rfl 23 (by decide) mw_5_108 rfl rfl dX7_goThrough_37 ?_
          refine g_iload_n C dX7_goThrough_40 rfl 2 rfl ?_
          obtain ⟨hi25, h⟩ := ck_of h
          refine g_iald C 3 rfl hi25 dX7_goThrough_41 ?_
          obtain ⟨hi26, h⟩ := ck_of h
          refine g_iast C 4 rfl hi26 [(a0, .inr (7, [.int (q7_thrown o0), .ref a0_buffer, .int (q7_length o0), .int (q7_at o0), .int (q7_from o0), .int (q7_kind o0), .int (q7_number o0), .int (q7_wrong o0), .ref a0_now, .ref a0_made, .ref a0_history, .ref a0_saved, .int (q7_entries o0), .int (q7_isSaved o0), .ref a0_closed, .ref a0_faces, .ref a0_rankOf, .ref a0_placeOf, .int (q7_faceMany o0), .int (q7_isLaid o0), .ref a0_counted, .ref a0_steps, .ref a0_onto, .ref a0_goes, .int (q7_found o0), .int (q7_images o0), .ref a0_firstImage, .int (q7_gathered o0)])), (a0_now, .inl (zI Z, 12, .inl (q7_now o0))), (a0_onto, .inl (zI Z, 12, .inl (q7_onto o0))), (a0_goes, .inl (zI Z, 8, .inl (q7_goes o0))), (a0_firstImage, .inl (zI Z, 8, .inl (upd v22.2 (ix v22.1) ((q7_goes o0) (ix v22.1)))))] rfl dX7_goThrough_42 ?_
          refine g_iinc C (v22.1 + 1) dX7_goThrough_43 2 rfl rfl (by decide) [(3, .int (v22.1 + 1)), (0, .ref a0), (1, .int p1)] rfl ?_
          refine g_goto C 26 dX7_goThrough_46 (by decide) ?_
          refine g_lv [1, 2, 0] [(0, .ref a0), (1, .int p1), (3, .int (v22.1 + 1))] rfl ?_
          exact hk1 ((v22.1 + 1), (upd v22.2 (ix v22.1) ((q7_goes o0) (ix v22.1)))) (Option.some.inj h).symm
def fX7_isomorphisms_L43 (o0 : OX7) (o1 : Nat → Int32) (p2 : Int32) (v3 : Int32 × (Nat → Int32)) : Option ((Int32 × (Nat → Int32)) ⊕ (Int32 × OX7)) :=
  if 12 ≤ v3.1 then (ex ((fX7_all (s7_gathered (s7_images (s7_found (s7_onto o0 v3.2) 0) 0) p2)).bind fun r6 =>
  ((fX7_goThrough 10 (s7_gathered (s7_images (s7_found (s7_onto o0 v3.2) 0) 0) p2) 0 r6).bind fun r8 =>
  (some ((q7_found r8), (s7_gathered (s7_firstImage (s7_images (s7_found (s7_goes (s7_onto o0 v3.2) (q7_goes r8)) (q7_found r8)) (q7_images r8)) (q7_firstImage r8)) p2))))))
  else (ck (okI v3.1 12) (ck (okI v3.1 12) (some (.inl ((v3.1 + 1), (upd v3.2 (ix v3.1) (o1 (ix v3.1))))))))
def fX7_isomorphisms (o0 : OX7) (o1 : Nat → Int32) (p2 : Int32) : Option (Int32 × OX7) :=
  if (o1 (ix 0)) = ((q7_now o0) (ix 0)) then (if (o1 (ix 1)) = ((q7_now o0) (ix 1)) then (lp (fX7_isomorphisms_L43 o0 o1 p2) lpN (0, (q7_onto o0)))
  else (some (0, (s7_gathered (s7_images (s7_found o0 0) 0) p2))))
  else (some (0, (s7_gathered (s7_images (s7_found o0 0) 0) p2)))
theorem myX7_isomorphisms : MYv yX7_isomorphisms cX7_isomorphisms 4 (some .int) 2 := ⟨mw_7_111, ms_80, mw_7_112, mw_1_9, ⟨by decide +kernel, by decide +kernel⟩, by decide +kernel⟩
set_option maxRecDepth 100000 in
set_option maxHeartbeats 4000000 in
theorem kX7_isomorphisms (l : Launch) (Z : GZ) (a0 a0_buffer a0_now a0_made a0_history a0_saved a0_closed a0_faces a0_rankOf a0_placeOf a0_counted a0_steps a0_onto a0_goes a0_firstImage a1 : Nat) (o0 : OX7) (o1 : Nat → Int32) (p2 : Int32) (res : Int32 × OX7) (h : fX7_isomorphisms o0 o1 p2 = some res) : MI l Z yX7_isomorphisms cX7_isomorphisms 4 .int 14 321 [.ref a0, .ref a1, .int p2] [(a0, .inr (7, [.int (q7_thrown o0), .ref a0_buffer, .int (q7_length o0), .int (q7_at o0), .int (q7_from o0), .int (q7_kind o0), .int (q7_number o0), .int (q7_wrong o0), .ref a0_now, .ref a0_made, .ref a0_history, .ref a0_saved, .int (q7_entries o0), .int (q7_isSaved o0), .ref a0_closed, .ref a0_faces, .ref a0_rankOf, .ref a0_placeOf, .int (q7_faceMany o0), .int (q7_isLaid o0), .ref a0_counted, .ref a0_steps, .ref a0_onto, .ref a0_goes, .int (q7_found o0), .int (q7_images o0), .ref a0_firstImage, .int (q7_gathered o0)])), (a0_now, .inl (zI Z, 12, .inl (q7_now o0))), (a0_onto, .inl (zI Z, 12, .inl (q7_onto o0))), (a0_goes, .inl (zI Z, 8, .inl (q7_goes o0))), (a0_firstImage, .inl (zI Z, 8, .inl (q7_firstImage o0))), (a1, .inl (zI Z, 12, .inl o1))] res.1 [(a0, .inr (7, [.int (q7_thrown o0), .ref a0_buffer, .int (q7_length o0), .int (q7_at o0), .int (q7_from o0), .int (q7_kind o0), .int (q7_number o0), .int (q7_wrong o0), .ref a0_now, .ref a0_made, .ref a0_history, .ref a0_saved, .int (q7_entries o0), .int (q7_isSaved o0), .ref a0_closed, .ref a0_faces, .ref a0_rankOf, .ref a0_placeOf, .int (q7_faceMany o0), .int (q7_isLaid o0), .ref a0_counted, .ref a0_steps, .ref a0_onto, .ref a0_goes, .int (q7_found res.2), .int (q7_images res.2), .ref a0_firstImage, .int (q7_gathered res.2)])), (a0_now, .inl (zI Z, 12, .inl (q7_now o0))), (a0_onto, .inl (zI Z, 12, .inl (q7_onto res.2))), (a0_goes, .inl (zI Z, 8, .inl (q7_goes res.2))), (a0_firstImage, .inl (zI Z, 8, .inl (q7_firstImage res.2))), (a1, .inl (zI Z, 12, .inl o1))] := by
  refine MI_of (by decide +kernel) (Nat.le_of_ble_eq_true rfl) (fun {p e s m args below meth c} A R hR Q hQ C hr hlk => ?_)
  unfold fX7_isomorphisms at h
  refine g_lv [0, 1, 2] [(0, .ref a0), (1, .ref a1), (2, .int p2)] rfl ?_
  refine g_aload_n C dX7_isomorphisms_0 rfl 0 rfl ?_
  refine g_iconst C 0 dX7_isomorphisms_1 (by decide) ?_
  refine g_put C 7 307 gin7 tyX7 tyX7_ok nmX7 0 rfl rfl 24 (by decide) mw_5_109 rfl rfl (ty := .int) (by decide +kernel) rfl rfl (Nat.le_of_ble_eq_true rfl) [(a0, .inr (7, [.int (q7_thrown o0), .ref a0_buffer, .int (q7_length o0), .int (q7_at o0), .int (q7_from o0), .int (q7_kind o0), .int (q7_number o0), .int (q7_wrong o0), .ref a0_now, .ref a0_made, .ref a0_history, .ref a0_saved, .int (q7_entries o0), .int (q7_isSaved o0), .ref a0_closed, .ref a0_faces, .ref a0_rankOf, .ref a0_placeOf, .int (q7_faceMany o0), .int (q7_isLaid o0), .ref a0_counted, .ref a0_steps, .ref a0_onto, .ref a0_goes, .int 0, .int (q7_images o0), .ref a0_firstImage, .int (q7_gathered o0)])), (a0_now, .inl (zI Z, 12, .inl (q7_now o0))), (a0_onto, .inl (zI Z, 12, .inl (q7_onto o0))), (a0_goes, .inl (zI Z, 8, .inl (q7_goes o0))), (a0_firstImage, .inl (zI Z, 8, .inl (q7_firstImage o0))), (a1, .inl (zI Z, 12, .inl o1))] rfl dX7_isomorphisms_2 ?_
  refine g_aload_n C dX7_isomorphisms_5 rfl 0 rfl ?_
  refine g_iconst C 0 dX7_isomorphisms_6 (by decide) ?_
  refine g_put C 7 310 gin7 tyX7 tyX7_ok nmX7 0 rfl rfl 25 (by decide) mw_5_110 rfl rfl (ty := .int) (by decide +kernel) rfl rfl (Nat.le_of_ble_eq_true rfl) [(a0, .inr (7, [.int (q7_thrown o0), .ref a0_buffer, .int (q7_length o0), .int (q7_at o0), .int (q7_from o0), .int (q7_kind o0), .int (q7_number o0), .int (q7_wrong o0), .ref a0_now, .ref a0_made, .ref a0_history, .ref a0_saved, .int (q7_entries o0), .int (q7_isSaved o0), .ref a0_closed, .ref a0_faces, .ref a0_rankOf, .ref a0_placeOf, .int (q7_faceMany o0), .int (q7_isLaid o0), .ref a0_counted, .ref a0_steps, .ref a0_onto, .ref a0_goes, .int 0, .int 0, .ref a0_firstImage, .int (q7_gathered o0)])), (a0_now, .inl (zI Z, 12, .inl (q7_now o0))), (a0_onto, .inl (zI Z, 12, .inl (q7_onto o0))), (a0_goes, .inl (zI Z, 8, .inl (q7_goes o0))), (a0_firstImage, .inl (zI Z, 8, .inl (q7_firstImage o0))), (a1, .inl (zI Z, 12, .inl o1))] rfl dX7_isomorphisms_7 ?_
  refine g_aload_n C dX7_isomorphisms_10 rfl 0 rfl ?_
  refine g_iload_n C dX7_isomorphisms_11 rfl 2 rfl ?_
  refine g_put C 7 313 gin7 tyX7 tyX7_ok nmX7 0 rfl rfl 27 (by decide) mw_5_112 rfl rfl (ty := .int) (by decide +kernel) rfl rfl (Nat.le_of_ble_eq_true rfl) [(a0, .inr (7, [.int (q7_thrown o0), .ref a0_buffer, .int (q7_length o0), .int (q7_at o0), .int (q7_from o0), .int (q7_kind o0), .int (q7_number o0), .int (q7_wrong o0), .ref a0_now, .ref a0_made, .ref a0_history, .ref a0_saved, .int (q7_entries o0), .int (q7_isSaved o0), .ref a0_closed, .ref a0_faces, .ref a0_rankOf, .ref a0_placeOf, .int (q7_faceMany o0), .int (q7_isLaid o0), .ref a0_counted, .ref a0_steps, .ref a0_onto, .ref a0_goes, .int 0, .int 0, .ref a0_firstImage, .int p2])), (a0_now, .inl (zI Z, 12, .inl (q7_now o0))), (a0_onto, .inl (zI Z, 12, .inl (q7_onto o0))), (a0_goes, .inl (zI Z, 8, .inl (q7_goes o0))), (a0_firstImage, .inl (zI Z, 8, .inl (q7_firstImage o0))), (a1, .inl (zI Z, 12, .inl o1))] rfl dX7_isomorphisms_12 ?_
  refine g_aload_n C dX7_isomorphisms_15 rfl 1 rfl ?_
  refine g_iconst C 0 dX7_isomorphisms_16 (by decide) ?_
  refine g_iald C 5 rfl (by decide) dX7_isomorphisms_17 ?_
  refine g_aload_n C dX7_isomorphisms_18 rfl 0 rfl ?_
  refine g_get C 7 13 gin7 0 rfl rfl 8 (by decide) mw_5_93 rfl rfl dX7_isomorphisms_19 ?_
  refine g_iconst C 0 dX7_isomorphisms_22 (by decide) ?_
  refine g_iald C 1 rfl (by decide) dX7_isomorphisms_23 ?_
  refine g_icmp_ne C 39 dX7_isomorphisms_24 (by decide) (fun c1 => ?_) (fun c1 => ?_)
  · replace h := it_f c1 h
    refine g_iconst C 0 dX7_isomorphisms_39 (by decide) ?_
    obtain rfl := Option.some.inj h
    subst hQ
    exact g_iret C rfl hr hlk dX7_isomorphisms_40 [0, 1, 2, 3, 4, 5] rfl (by decide)
  · replace h := it_t c1 h
    refine g_aload_n C dX7_isomorphisms_27 rfl 1 rfl ?_
    refine g_iconst C 1 dX7_isomorphisms_28 (by decide) ?_
    refine g_iald C 5 rfl (by decide) dX7_isomorphisms_29 ?_
    refine g_aload_n C dX7_isomorphisms_30 rfl 0 rfl ?_
    refine g_get C 7 13 gin7 0 rfl rfl 8 (by decide) mw_5_93 rfl rfl dX7_isomorphisms_31 ?_
    refine g_iconst C 1 dX7_isomorphisms_34 (by decide) ?_
    refine g_iald C 1 rfl (by decide) dX7_isomorphisms_35 ?_
    refine g_icmp_eq C 41 dX7_isomorphisms_36 (by decide) (fun c2 => ?_) (fun c2 => ?_)
    · replace h := it_t c2 h
      refine g_iconst C 0 dX7_isomorphisms_41 (by decide) ?_
      refine g_istore_n C dX7_isomorphisms_42 rfl (by decide) [(3, .int 0), (0, .ref a0), (1, .ref a1), (2, .int p2)] rfl ?_
      refine g_lv [1, 2, 0] [(0, .ref a0), (1, .ref a1), (3, .int 0)] rfl ?_
      refine g_loop (lvf := fun v3 => [(0, .ref a0), (1, .ref a1), (3, .int v3.1)]) (wsf := fun v3 => [(a0, .inr (7, [.int (q7_thrown o0), .ref a0_buffer, .int (q7_length o0), .int (q7_at o0), .int (q7_from o0), .int (q7_kind o0), .int (q7_number o0), .int (q7_wrong o0), .ref a0_now, .ref a0_made, .ref a0_history, .ref a0_saved, .int (q7_entries o0), .int (q7_isSaved o0), .ref a0_closed, .ref a0_faces, .ref a0_rankOf, .ref a0_placeOf, .int (q7_faceMany o0), .int (q7_isLaid o0), .ref a0_counted, .ref a0_steps, .ref a0_onto, .ref a0_goes, .int 0, .int 0, .ref a0_firstImage, .int p2])), (a0_now, .inl (zI Z, 12, .inl (q7_now o0))), (a0_onto, .inl (zI Z, 12, .inl v3.2)), (a0_goes, .inl (zI Z, 8, .inl (q7_goes o0))), (a0_firstImage, .inl (zI Z, 8, .inl (q7_firstImage o0))), (a1, .inl (zI Z, 12, .inl o1))]) h (fun v3 y1 h hk1 hx1 => ?_)
      refine g_eq (lv1 := [(0, .ref a0), (1, .ref a1), (3, .int v3.1)]) (st1 := []) (ws1 := [(a0, .inr (7, [.int (q7_thrown o0), .ref a0_buffer, .int (q7_length o0), .int (q7_at o0), .int (q7_from o0), .int (q7_kind o0), .int (q7_number o0), .int (q7_wrong o0), .ref a0_now, .ref a0_made, .ref a0_history, .ref a0_saved, .int (q7_entries o0), .int (q7_isSaved o0), .ref a0_closed, .ref a0_faces, .ref a0_rankOf, .ref a0_placeOf, .int (q7_faceMany o0), .int (q7_isLaid o0), .ref a0_counted, .ref a0_steps, .ref a0_onto, .ref a0_goes, .int 0, .int 0, .ref a0_firstImage, .int p2])), (a0_now, .inl (zI Z, 12, .inl (q7_now o0))), (a0_onto, .inl (zI Z, 12, .inl v3.2)), (a0_goes, .inl (zI Z, 8, .inl (q7_goes o0))), (a0_firstImage, .inl (zI Z, 8, .inl (q7_firstImage o0))), (a1, .inl (zI Z, 12, .inl o1))]) rfl rfl rfl rfl ?_
      unfold fX7_isomorphisms_L43 at h
      refine g_iload_n C dX7_isomorphisms_43 rfl 2 rfl ?_
      refine g_bipush C 12 dX7_isomorphisms_44 (by decide) ?_
      refine g_icmp_ge C 64 dX7_isomorphisms_46 (by decide) (fun c4 => ?_) (fun c4 => ?_)
      · replace h := it_t c4 h
        obtain ⟨r5, h, hy⟩ := ex_of h
        rw [hx1 r5 hy] at h
        refine g_aload_n C dX7_isomorphisms_64 rfl 0 rfl ?_
        refine g_iconst C 0 dX7_isomorphisms_65 (by decide) ?_
        refine g_aload_n C dX7_isomorphisms_66 rfl 0 rfl ?_
        obtain ⟨r6, hr7, h⟩ := bd_of h
        refine g_callVi C (kX7_all l Z a0 a0_buffer a0_now a0_made a0_history a0_saved a0_closed a0_faces a0_rankOf a0_placeOf a0_counted a0_steps a0_onto a0_goes a0_firstImage (s7_gathered (s7_images (s7_found (s7_onto o0 v3.2) 0) 0) p2) r6 hr7) 0 rfl (ci := 7) rfl rfl myX7_all 196 mw_6_96 rfl [0, 1] [2, 3, 4, 5] [4, 5, 0, 1, 2, 3] (wr := [(a0_onto, .inl (zI Z, 12, .inl v3.2)), (a0_goes, .inl (zI Z, 8, .inl (q7_goes o0))), (a0_firstImage, .inl (zI Z, 8, .inl (q7_firstImage o0))), (a1, .inl (zI Z, 12, .inl o1))]) rfl rfl (by decide) (by decide) (by decide) [(a0, .inr (7, [.int (q7_thrown o0), .ref a0_buffer, .int (q7_length o0), .int (q7_at o0), .int (q7_from o0), .int (q7_kind o0), .int (q7_number o0), .int (q7_wrong o0), .ref a0_now, .ref a0_made, .ref a0_history, .ref a0_saved, .int (q7_entries o0), .int (q7_isSaved o0), .ref a0_closed, .ref a0_faces, .ref a0_rankOf, .ref a0_placeOf, .int (q7_faceMany o0), .int (q7_isLaid o0), .ref a0_counted, .ref a0_steps, .ref a0_onto, .ref a0_goes, .int 0, .int 0, .ref a0_firstImage, .int p2])), (a0_now, .inl (zI Z, 12, .inl (q7_now o0))), (a0_onto, .inl (zI Z, 12, .inl v3.2)), (a0_goes, .inl (zI Z, 8, .inl (q7_goes o0))), (a0_firstImage, .inl (zI Z, 8, .inl (q7_firstImage o0))), (a1, .inl (zI Z, 12, .inl o1))] rfl (by decide) (Nat.le_of_ble_eq_true rfl) (by rw [hR]; exact Nat.le_of_ble_eq_true rfl) (by rw [hR]; exact Nat.le_of_ble_eq_true rfl) ⟨by rw [hR]; exact Nat.le_of_ble_eq_true rfl, by rw [hR]; exact Nat.le_of_ble_eq_true rfl⟩ rfl dX7_isomorphisms_67 ?_
        obtain ⟨r8, hr9, h⟩ := bd_of h
        refine g_callVv C (kX7_goThrough l Z 10 a0 a0_buffer a0_now a0_made a0_history a0_saved a0_closed a0_faces a0_rankOf a0_placeOf a0_counted a0_steps a0_onto a0_goes a0_firstImage (s7_gathered (s7_images (s7_found (s7_onto o0 v3.2) 0) 0) p2) 0 r6 r8 hr9) 0 rfl (ci := 7) rfl rfl myX7_goThrough 320 mw_7_113 rfl [0, 1, 2, 3, 4] [5] [1, 2, 3, 4, 5, 0] (wr := [(a1, .inl (zI Z, 12, .inl o1))]) rfl rfl (by decide) (by decide) (by decide) [(a0, .inr (7, [.int (q7_thrown o0), .ref a0_buffer, .int (q7_length o0), .int (q7_at o0), .int (q7_from o0), .int (q7_kind o0), .int (q7_number o0), .int (q7_wrong o0), .ref a0_now, .ref a0_made, .ref a0_history, .ref a0_saved, .int (q7_entries o0), .int (q7_isSaved o0), .ref a0_closed, .ref a0_faces, .ref a0_rankOf, .ref a0_placeOf, .int (q7_faceMany o0), .int (q7_isLaid o0), .ref a0_counted, .ref a0_steps, .ref a0_onto, .ref a0_goes, .int (q7_found r8), .int (q7_images r8), .ref a0_firstImage, .int p2])), (a0_now, .inl (zI Z, 12, .inl (q7_now o0))), (a0_onto, .inl (zI Z, 12, .inl v3.2)), (a0_goes, .inl (zI Z, 8, .inl (q7_goes r8))), (a0_firstImage, .inl (zI Z, 8, .inl (q7_firstImage r8))), (a1, .inl (zI Z, 12, .inl o1))] rfl (by decide) (Nat.le_of_ble_eq_true rfl) (by rw [hR]; exact Nat.le_of_ble_eq_true rfl) (by rw [hR]; exact Nat.le_of_ble_eq_true rfl) ⟨by rw [hR]; exact Nat.le_of_ble_eq_true rfl, by rw [hR]; exact Nat.le_of_ble_eq_true rfl⟩ rfl dX7_isomorphisms_70 ?_
        refine g_aload_n C dX7_isomorphisms_73 rfl 0 rfl ?_
        refine g_get C 7 307 gin7 0 rfl rfl 24 (by decide) mw_5_109 rfl rfl dX7_isomorphisms_74 ?_
        obtain rfl := Option.some.inj h
        subst hQ
        exact g_iret C rfl hr hlk dX7_isomorphisms_77 [0, 1, 2, 3, 4, 5] rfl (by decide)
      · replace h := it_f c4 h
        refine g_aload_n C dX7_isomorphisms_49 rfl 0 rfl ?_
        refine g_get C 7 43 gin7 0 rfl rfl 22 (by decide) mw_5_107 rfl rfl dX7_isomorphisms_50 ?_
        refine g_iload_n C dX7_isomorphisms_53 rfl 2 rfl ?_
        refine g_aload_n C dX7_isomorphisms_54 rfl 1 rfl ?_
        refine g_iload_n C dX7_isomorphisms_55 rfl 2 rfl ?_
        obtain ⟨hi10, h⟩ := ck_of h
        refine g_iald C 5 rfl hi10 dX7_isomorphisms_56 ?_
        obtain ⟨hi11, h⟩ := ck_of h
        refine g_iast C 2 rfl hi11 [(a0, .inr (7, [.int (q7_thrown o0), .ref a0_buffer, .int (q7_length o0), .int (q7_at o0), .int (q7_from o0), .int (q7_kind o0), .int (q7_number o0), .int (q7_wrong o0), .ref a0_now, .ref a0_made, .ref a0_history, .ref a0_saved, .int (q7_entries o0), .int (q7_isSaved o0), .ref a0_closed, .ref a0_faces, .ref a0_rankOf, .ref a0_placeOf, .int (q7_faceMany o0), .int (q7_isLaid o0), .ref a0_counted, .ref a0_steps, .ref a0_onto, .ref a0_goes, .int 0, .int 0, .ref a0_firstImage, .int p2])), (a0_now, .inl (zI Z, 12, .inl (q7_now o0))), (a0_onto, .inl (zI Z, 12, .inl (upd v3.2 (ix v3.1) (o1 (ix v3.1))))), (a0_goes, .inl (zI Z, 8, .inl (q7_goes o0))), (a0_firstImage, .inl (zI Z, 8, .inl (q7_firstImage o0))), (a1, .inl (zI Z, 12, .inl o1))] rfl dX7_isomorphisms_57 ?_
        refine g_iinc C (v3.1 + 1) dX7_isomorphisms_58 2 rfl rfl (by decide) [(3, .int (v3.1 + 1)), (0, .ref a0), (1, .ref a1)] rfl ?_
        refine g_goto C 43 dX7_isomorphisms_61 (by decide) ?_
        refine g_lv [1, 2, 0] [(0, .ref a0), (1, .ref a1), (3, .int (v3.1 + 1))] rfl ?_
        exact hk1 ((v3.1 + 1), (upd v3.2 (ix v3.1) (o1 (ix v3.1)))) (Option.some.inj h).symm
    · replace h := it_f c2 h
      refine g_iconst C 0 dX7_isomorphisms_39 (by decide) ?_
      obtain rfl := Option.some.inj h
      subst hQ
      exact g_iret C rfl hr hlk dX7_isomorphisms_40 [0, 1, 2, 3, 4, 5] rfl (by decide)
set_option maxRecDepth 100000 in
set_option maxHeartbeats 4000000 in
theorem kX7_isomorphisms_s10_now (l : Launch) (Z : GZ) (a0 a0_buffer a0_now a0_made a0_history a0_saved a0_closed a0_faces a0_rankOf a0_placeOf a0_counted a0_steps a0_onto a0_goes a0_firstImage : Nat) (o0 : OX7) (o1 : Nat → Int32) (p2 : Int32) (res : Int32 × OX7) (h : fX7_isomorphisms o0 (q7_now o0) p2 = some res) : MI l Z yX7_isomorphisms cX7_isomorphisms 4 .int 14 321 [.ref a0, .ref a0_now, .int p2] [(a0, .inr (7, [.int (q7_thrown o0), .ref a0_buffer, .int (q7_length o0), .int (q7_at o0), .int (q7_from o0), .int (q7_kind o0), .int (q7_number o0), .int (q7_wrong o0), .ref a0_now, .ref a0_made, .ref a0_history, .ref a0_saved, .int (q7_entries o0), .int (q7_isSaved o0), .ref a0_closed, .ref a0_faces, .ref a0_rankOf, .ref a0_placeOf, .int (q7_faceMany o0), .int (q7_isLaid o0), .ref a0_counted, .ref a0_steps, .ref a0_onto, .ref a0_goes, .int (q7_found o0), .int (q7_images o0), .ref a0_firstImage, .int (q7_gathered o0)])), (a0_now, .inl (zI Z, 12, .inl (q7_now o0))), (a0_onto, .inl (zI Z, 12, .inl (q7_onto o0))), (a0_goes, .inl (zI Z, 8, .inl (q7_goes o0))), (a0_firstImage, .inl (zI Z, 8, .inl (q7_firstImage o0)))] res.1 [(a0, .inr (7, [.int (q7_thrown o0), .ref a0_buffer, .int (q7_length o0), .int (q7_at o0), .int (q7_from o0), .int (q7_kind o0), .int (q7_number o0), .int (q7_wrong o0), .ref a0_now, .ref a0_made, .ref a0_history, .ref a0_saved, .int (q7_entries o0), .int (q7_isSaved o0), .ref a0_closed, .ref a0_faces, .ref a0_rankOf, .ref a0_placeOf, .int (q7_faceMany o0), .int (q7_isLaid o0), .ref a0_counted, .ref a0_steps, .ref a0_onto, .ref a0_goes, .int (q7_found res.2), .int (q7_images res.2), .ref a0_firstImage, .int (q7_gathered res.2)])), (a0_now, .inl (zI Z, 12, .inl (q7_now o0))), (a0_onto, .inl (zI Z, 12, .inl (q7_onto res.2))), (a0_goes, .inl (zI Z, 8, .inl (q7_goes res.2))), (a0_firstImage, .inl (zI Z, 8, .inl (q7_firstImage res.2)))] := by
  refine MI_of (by decide +kernel) (Nat.le_of_ble_eq_true rfl) (fun {p e s m args below meth c} A R hR Q hQ C hr hlk => ?_)
  unfold fX7_isomorphisms at h
  refine g_lv [0, 1, 2] [(0, .ref a0), (1, .ref a0_now), (2, .int p2)] rfl ?_
  refine g_aload_n C dX7_isomorphisms_0 rfl 0 rfl ?_
  refine g_iconst C 0 dX7_isomorphisms_1 (by decide) ?_
  refine g_put C 7 307 gin7 tyX7 tyX7_ok nmX7 0 rfl rfl 24 (by decide) mw_5_109 rfl rfl (ty := .int) (by decide +kernel) rfl rfl (Nat.le_of_ble_eq_true rfl) [(a0, .inr (7, [.int (q7_thrown o0), .ref a0_buffer, .int (q7_length o0), .int (q7_at o0), .int (q7_from o0), .int (q7_kind o0), .int (q7_number o0), .int (q7_wrong o0), .ref a0_now, .ref a0_made, .ref a0_history, .ref a0_saved, .int (q7_entries o0), .int (q7_isSaved o0), .ref a0_closed, .ref a0_faces, .ref a0_rankOf, .ref a0_placeOf, .int (q7_faceMany o0), .int (q7_isLaid o0), .ref a0_counted, .ref a0_steps, .ref a0_onto, .ref a0_goes, .int 0, .int (q7_images o0), .ref a0_firstImage, .int (q7_gathered o0)])), (a0_now, .inl (zI Z, 12, .inl (q7_now o0))), (a0_onto, .inl (zI Z, 12, .inl (q7_onto o0))), (a0_goes, .inl (zI Z, 8, .inl (q7_goes o0))), (a0_firstImage, .inl (zI Z, 8, .inl (q7_firstImage o0)))] rfl dX7_isomorphisms_2 ?_
  refine g_aload_n C dX7_isomorphisms_5 rfl 0 rfl ?_
  refine g_iconst C 0 dX7_isomorphisms_6 (by decide) ?_
  refine g_put C 7 310 gin7 tyX7 tyX7_ok nmX7 0 rfl rfl 25 (by decide) mw_5_110 rfl rfl (ty := .int) (by decide +kernel) rfl rfl (Nat.le_of_ble_eq_true rfl) [(a0, .inr (7, [.int (q7_thrown o0), .ref a0_buffer, .int (q7_length o0), .int (q7_at o0), .int (q7_from o0), .int (q7_kind o0), .int (q7_number o0), .int (q7_wrong o0), .ref a0_now, .ref a0_made, .ref a0_history, .ref a0_saved, .int (q7_entries o0), .int (q7_isSaved o0), .ref a0_closed, .ref a0_faces, .ref a0_rankOf, .ref a0_placeOf, .int (q7_faceMany o0), .int (q7_isLaid o0), .ref a0_counted, .ref a0_steps, .ref a0_onto, .ref a0_goes, .int 0, .int 0, .ref a0_firstImage, .int (q7_gathered o0)])), (a0_now, .inl (zI Z, 12, .inl (q7_now o0))), (a0_onto, .inl (zI Z, 12, .inl (q7_onto o0))), (a0_goes, .inl (zI Z, 8, .inl (q7_goes o0))), (a0_firstImage, .inl (zI Z, 8, .inl (q7_firstImage o0)))] rfl dX7_isomorphisms_7 ?_
  refine g_aload_n C dX7_isomorphisms_10 rfl 0 rfl ?_
  refine g_iload_n C dX7_isomorphisms_11 rfl 2 rfl ?_
  refine g_put C 7 313 gin7 tyX7 tyX7_ok nmX7 0 rfl rfl 27 (by decide) mw_5_112 rfl rfl (ty := .int) (by decide +kernel) rfl rfl (Nat.le_of_ble_eq_true rfl) [(a0, .inr (7, [.int (q7_thrown o0), .ref a0_buffer, .int (q7_length o0), .int (q7_at o0), .int (q7_from o0), .int (q7_kind o0), .int (q7_number o0), .int (q7_wrong o0), .ref a0_now, .ref a0_made, .ref a0_history, .ref a0_saved, .int (q7_entries o0), .int (q7_isSaved o0), .ref a0_closed, .ref a0_faces, .ref a0_rankOf, .ref a0_placeOf, .int (q7_faceMany o0), .int (q7_isLaid o0), .ref a0_counted, .ref a0_steps, .ref a0_onto, .ref a0_goes, .int 0, .int 0, .ref a0_firstImage, .int p2])), (a0_now, .inl (zI Z, 12, .inl (q7_now o0))), (a0_onto, .inl (zI Z, 12, .inl (q7_onto o0))), (a0_goes, .inl (zI Z, 8, .inl (q7_goes o0))), (a0_firstImage, .inl (zI Z, 8, .inl (q7_firstImage o0)))] rfl dX7_isomorphisms_12 ?_
  refine g_aload_n C dX7_isomorphisms_15 rfl 1 rfl ?_
  refine g_iconst C 0 dX7_isomorphisms_16 (by decide) ?_
  refine g_iald C 1 rfl (by decide) dX7_isomorphisms_17 ?_
  refine g_aload_n C dX7_isomorphisms_18 rfl 0 rfl ?_
  refine g_get C 7 13 gin7 0 rfl rfl 8 (by decide) mw_5_93 rfl rfl dX7_isomorphisms_19 ?_
  refine g_iconst C 0 dX7_isomorphisms_22 (by decide) ?_
  refine g_iald C 1 rfl (by decide) dX7_isomorphisms_23 ?_
  refine g_icmp_ne C 39 dX7_isomorphisms_24 (by decide) (fun c1 => ?_) (fun c1 => ?_)
  · replace h := it_f c1 h
    refine g_iconst C 0 dX7_isomorphisms_39 (by decide) ?_
    obtain rfl := Option.some.inj h
    subst hQ
    exact g_iret C rfl hr hlk dX7_isomorphisms_40 [0, 1, 2, 3, 4] rfl (by decide)
  · replace h := it_t c1 h
    refine g_aload_n C dX7_isomorphisms_27 rfl 1 rfl ?_
    refine g_iconst C 1 dX7_isomorphisms_28 (by decide) ?_
    refine g_iald C 1 rfl (by decide) dX7_isomorphisms_29 ?_
    refine g_aload_n C dX7_isomorphisms_30 rfl 0 rfl ?_
    refine g_get C 7 13 gin7 0 rfl rfl 8 (by decide) mw_5_93 rfl rfl dX7_isomorphisms_31 ?_
    refine g_iconst C 1 dX7_isomorphisms_34 (by decide) ?_
    refine g_iald C 1 rfl (by decide) dX7_isomorphisms_35 ?_
    refine g_icmp_eq C 41 dX7_isomorphisms_36 (by decide) (fun c2 => ?_) (fun c2 => ?_)
    · replace h := it_t c2 h
      refine g_iconst C 0 dX7_isomorphisms_41 (by decide) ?_
      refine g_istore_n C dX7_isomorphisms_42 rfl (by decide) [(3, .int 0), (0, .ref a0), (1, .ref a0_now), (2, .int p2)] rfl ?_
      refine g_lv [1, 2, 0] [(0, .ref a0), (1, .ref a0_now), (3, .int 0)] rfl ?_
      refine g_loop (lvf := fun v3 => [(0, .ref a0), (1, .ref a0_now), (3, .int v3.1)]) (wsf := fun v3 => [(a0, .inr (7, [.int (q7_thrown o0), .ref a0_buffer, .int (q7_length o0), .int (q7_at o0), .int (q7_from o0), .int (q7_kind o0), .int (q7_number o0), .int (q7_wrong o0), .ref a0_now, .ref a0_made, .ref a0_history, .ref a0_saved, .int (q7_entries o0), .int (q7_isSaved o0), .ref a0_closed, .ref a0_faces, .ref a0_rankOf, .ref a0_placeOf, .int (q7_faceMany o0), .int (q7_isLaid o0), .ref a0_counted, .ref a0_steps, .ref a0_onto, .ref a0_goes, .int 0, .int 0, .ref a0_firstImage, .int p2])), (a0_now, .inl (zI Z, 12, .inl (q7_now o0))), (a0_onto, .inl (zI Z, 12, .inl v3.2)), (a0_goes, .inl (zI Z, 8, .inl (q7_goes o0))), (a0_firstImage, .inl (zI Z, 8, .inl (q7_firstImage o0)))]) h (fun v3 y1 h hk1 hx1 => ?_)
      refine g_eq (lv1 := [(0, .ref a0), (1, .ref a0_now), (3, .int v3.1)]) (st1 := []) (ws1 := [(a0, .inr (7, [.int (q7_thrown o0), .ref a0_buffer, .int (q7_length o0), .int (q7_at o0), .int (q7_from o0), .int (q7_kind o0), .int (q7_number o0), .int (q7_wrong o0), .ref a0_now, .ref a0_made, .ref a0_history, .ref a0_saved, .int (q7_entries o0), .int (q7_isSaved o0), .ref a0_closed, .ref a0_faces, .ref a0_rankOf, .ref a0_placeOf, .int (q7_faceMany o0), .int (q7_isLaid o0), .ref a0_counted, .ref a0_steps, .ref a0_onto, .ref a0_goes, .int 0, .int 0, .ref a0_firstImage, .int p2])), (a0_now, .inl (zI Z, 12, .inl (q7_now o0))), (a0_onto, .inl (zI Z, 12, .inl v3.2)), (a0_goes, .inl (zI Z, 8, .inl (q7_goes o0))), (a0_firstImage, .inl (zI Z, 8, .inl (q7_firstImage o0)))]) rfl rfl rfl rfl ?_
      unfold fX7_isomorphisms_L43 at h
      refine g_iload_n C dX7_isomorphisms_43 rfl 2 rfl ?_
      refine g_bipush C 12 dX7_isomorphisms_44 (by decide) ?_
      refine g_icmp_ge C 64 dX7_isomorphisms_46 (by decide) (fun c4 => ?_) (fun c4 => ?_)
      · replace h := it_t c4 h
        obtain ⟨r5, h, hy⟩ := ex_of h
        rw [hx1 r5 hy] at h
        refine g_aload_n C dX7_isomorphisms_64 rfl 0 rfl ?_
        refine g_iconst C 0 dX7_isomorphisms_65 (by decide) ?_
        refine g_aload_n C dX7_isomorphisms_66 rfl 0 rfl ?_
        obtain ⟨r6, hr7, h⟩ := bd_of h
        refine g_callVi C (kX7_all l Z a0 a0_buffer a0_now a0_made a0_history a0_saved a0_closed a0_faces a0_rankOf a0_placeOf a0_counted a0_steps a0_onto a0_goes a0_firstImage (s7_gathered (s7_images (s7_found (s7_onto o0 v3.2) 0) 0) p2) r6 hr7) 0 rfl (ci := 7) rfl rfl myX7_all 196 mw_6_96 rfl [0, 1] [2, 3, 4] [3, 4, 0, 1, 2] (wr := [(a0_onto, .inl (zI Z, 12, .inl v3.2)), (a0_goes, .inl (zI Z, 8, .inl (q7_goes o0))), (a0_firstImage, .inl (zI Z, 8, .inl (q7_firstImage o0)))]) rfl rfl (by decide) (by decide) (by decide) [(a0, .inr (7, [.int (q7_thrown o0), .ref a0_buffer, .int (q7_length o0), .int (q7_at o0), .int (q7_from o0), .int (q7_kind o0), .int (q7_number o0), .int (q7_wrong o0), .ref a0_now, .ref a0_made, .ref a0_history, .ref a0_saved, .int (q7_entries o0), .int (q7_isSaved o0), .ref a0_closed, .ref a0_faces, .ref a0_rankOf, .ref a0_placeOf, .int (q7_faceMany o0), .int (q7_isLaid o0), .ref a0_counted, .ref a0_steps, .ref a0_onto, .ref a0_goes, .int 0, .int 0, .ref a0_firstImage, .int p2])), (a0_now, .inl (zI Z, 12, .inl (q7_now o0))), (a0_onto, .inl (zI Z, 12, .inl v3.2)), (a0_goes, .inl (zI Z, 8, .inl (q7_goes o0))), (a0_firstImage, .inl (zI Z, 8, .inl (q7_firstImage o0)))] rfl (by decide) (Nat.le_of_ble_eq_true rfl) (by rw [hR]; exact Nat.le_of_ble_eq_true rfl) (by rw [hR]; exact Nat.le_of_ble_eq_true rfl) ⟨by rw [hR]; exact Nat.le_of_ble_eq_true rfl, by rw [hR]; exact Nat.le_of_ble_eq_true rfl⟩ rfl dX7_isomorphisms_67 ?_
        obtain ⟨r8, hr9, h⟩ := bd_of h
        refine g_callVv C (kX7_goThrough l Z 10 a0 a0_buffer a0_now a0_made a0_history a0_saved a0_closed a0_faces a0_rankOf a0_placeOf a0_counted a0_steps a0_onto a0_goes a0_firstImage (s7_gathered (s7_images (s7_found (s7_onto o0 v3.2) 0) 0) p2) 0 r6 r8 hr9) 0 rfl (ci := 7) rfl rfl myX7_goThrough 320 mw_7_113 rfl [0, 1, 2, 3, 4] [] [0, 1, 2, 3, 4] (wr := []) rfl rfl (by decide) (by decide) (by decide) [(a0, .inr (7, [.int (q7_thrown o0), .ref a0_buffer, .int (q7_length o0), .int (q7_at o0), .int (q7_from o0), .int (q7_kind o0), .int (q7_number o0), .int (q7_wrong o0), .ref a0_now, .ref a0_made, .ref a0_history, .ref a0_saved, .int (q7_entries o0), .int (q7_isSaved o0), .ref a0_closed, .ref a0_faces, .ref a0_rankOf, .ref a0_placeOf, .int (q7_faceMany o0), .int (q7_isLaid o0), .ref a0_counted, .ref a0_steps, .ref a0_onto, .ref a0_goes, .int (q7_found r8), .int (q7_images r8), .ref a0_firstImage, .int p2])), (a0_now, .inl (zI Z, 12, .inl (q7_now o0))), (a0_onto, .inl (zI Z, 12, .inl v3.2)), (a0_goes, .inl (zI Z, 8, .inl (q7_goes r8))), (a0_firstImage, .inl (zI Z, 8, .inl (q7_firstImage r8)))] rfl (by decide) (Nat.le_of_ble_eq_true rfl) (by rw [hR]; exact Nat.le_of_ble_eq_true rfl) (by rw [hR]; exact Nat.le_of_ble_eq_true rfl) ⟨by rw [hR]; exact Nat.le_of_ble_eq_true rfl, by rw [hR]; exact Nat.le_of_ble_eq_true rfl⟩ rfl dX7_isomorphisms_70 ?_
        refine g_aload_n C dX7_isomorphisms_73 rfl 0 rfl ?_
        refine g_get C 7 307 gin7 0 rfl rfl 24 (by decide) mw_5_109 rfl rfl dX7_isomorphisms_74 ?_
        obtain rfl := Option.some.inj h
        subst hQ
        exact g_iret C rfl hr hlk dX7_isomorphisms_77 [0, 1, 2, 3, 4] rfl (by decide)
      · replace h := it_f c4 h
        refine g_aload_n C dX7_isomorphisms_49 rfl 0 rfl ?_
        refine g_get C 7 43 gin7 0 rfl rfl 22 (by decide) mw_5_107 rfl rfl dX7_isomorphisms_50 ?_
        refine g_iload_n C dX7_isomorphisms_53 rfl 2 rfl ?_
        refine g_aload_n C dX7_isomorphisms_54 rfl 1 rfl ?_
        refine g_iload_n C dX7_isomorphisms_55 rfl 2 rfl ?_
        obtain ⟨hi10, h⟩ := ck_of h
        refine g_iald C 1 rfl hi10 dX7_isomorphisms_56 ?_
        obtain ⟨hi11, h⟩ := ck_of h
        refine g_iast C 2 rfl hi11 [(a0, .inr (7, [.int (q7_thrown o0), .ref a0_buffer, .int (q7_length o0), .int (q7_at o0), .int (q7_from o0), .int (q7_kind o0), .int (q7_number o0), .int (q7_wrong o0), .ref a0_now, .ref a0_made, .ref a0_history, .ref a0_saved, .int (q7_entries o0), .int (q7_isSaved o0), .ref a0_closed, .ref a0_faces, .ref a0_rankOf, .ref a0_placeOf, .int (q7_faceMany o0), .int (q7_isLaid o0), .ref a0_counted, .ref a0_steps, .ref a0_onto, .ref a0_goes, .int 0, .int 0, .ref a0_firstImage, .int p2])), (a0_now, .inl (zI Z, 12, .inl (q7_now o0))), (a0_onto, .inl (zI Z, 12, .inl (upd v3.2 (ix v3.1) ((q7_now o0) (ix v3.1))))), (a0_goes, .inl (zI Z, 8, .inl (q7_goes o0))), (a0_firstImage, .inl (zI Z, 8, .inl (q7_firstImage o0)))] rfl dX7_isomorphisms_57 ?_
        refine g_iinc C (v3.1 + 1) dX7_isomorphisms_58 2 rfl rfl (by decide) [(3, .int (v3.1 + 1)), (0, .ref a0), (1, .ref a0_now)] rfl ?_
        refine g_goto C 43 dX7_isomorphisms_61 (by decide) ?_
        refine g_lv [1, 2, 0] [(0, .ref a0), (1, .ref a0_now), (3, .int (v3.1 + 1))] rfl ?_
        exact hk1 ((v3.1 + 1), (upd v3.2 (ix v3.1) ((q7_now o0) (ix v3.1)))) (Option.some.inj h).symm
    · replace h := it_f c2 h
      refine g_iconst C 0 dX7_isomorphisms_39 (by decide) ?_
      obtain rfl := Option.some.inj h
      subst hQ
      exact g_iret C rfl hr hlk dX7_isomorphisms_40 [0, 1, 2, 3, 4] rfl (by decide)
set_option maxRecDepth 100000 in
set_option maxHeartbeats 4000000 in
theorem kX7_isomorphisms_s10_saved (l : Launch) (Z : GZ) (a0 a0_buffer a0_now a0_made a0_history a0_saved a0_closed a0_faces a0_rankOf a0_placeOf a0_counted a0_steps a0_onto a0_goes a0_firstImage : Nat) (o0 : OX7) (o1 : Nat → Int32) (p2 : Int32) (res : Int32 × OX7) (h : fX7_isomorphisms o0 (q7_saved o0) p2 = some res) : MI l Z yX7_isomorphisms cX7_isomorphisms 4 .int 14 321 [.ref a0, .ref a0_saved, .int p2] [(a0, .inr (7, [.int (q7_thrown o0), .ref a0_buffer, .int (q7_length o0), .int (q7_at o0), .int (q7_from o0), .int (q7_kind o0), .int (q7_number o0), .int (q7_wrong o0), .ref a0_now, .ref a0_made, .ref a0_history, .ref a0_saved, .int (q7_entries o0), .int (q7_isSaved o0), .ref a0_closed, .ref a0_faces, .ref a0_rankOf, .ref a0_placeOf, .int (q7_faceMany o0), .int (q7_isLaid o0), .ref a0_counted, .ref a0_steps, .ref a0_onto, .ref a0_goes, .int (q7_found o0), .int (q7_images o0), .ref a0_firstImage, .int (q7_gathered o0)])), (a0_now, .inl (zI Z, 12, .inl (q7_now o0))), (a0_saved, .inl (zI Z, 12, .inl (q7_saved o0))), (a0_onto, .inl (zI Z, 12, .inl (q7_onto o0))), (a0_goes, .inl (zI Z, 8, .inl (q7_goes o0))), (a0_firstImage, .inl (zI Z, 8, .inl (q7_firstImage o0)))] res.1 [(a0, .inr (7, [.int (q7_thrown o0), .ref a0_buffer, .int (q7_length o0), .int (q7_at o0), .int (q7_from o0), .int (q7_kind o0), .int (q7_number o0), .int (q7_wrong o0), .ref a0_now, .ref a0_made, .ref a0_history, .ref a0_saved, .int (q7_entries o0), .int (q7_isSaved o0), .ref a0_closed, .ref a0_faces, .ref a0_rankOf, .ref a0_placeOf, .int (q7_faceMany o0), .int (q7_isLaid o0), .ref a0_counted, .ref a0_steps, .ref a0_onto, .ref a0_goes, .int (q7_found res.2), .int (q7_images res.2), .ref a0_firstImage, .int (q7_gathered res.2)])), (a0_now, .inl (zI Z, 12, .inl (q7_now o0))), (a0_saved, .inl (zI Z, 12, .inl (q7_saved o0))), (a0_onto, .inl (zI Z, 12, .inl (q7_onto res.2))), (a0_goes, .inl (zI Z, 8, .inl (q7_goes res.2))), (a0_firstImage, .inl (zI Z, 8, .inl (q7_firstImage res.2)))] := by
  refine MI_of (by decide +kernel) (Nat.le_of_ble_eq_true rfl) (fun {p e s m args below meth c} A R hR Q hQ C hr hlk => ?_)
  unfold fX7_isomorphisms at h
  refine g_lv [0, 1, 2] [(0, .ref a0), (1, .ref a0_saved), (2, .int p2)] rfl ?_
  refine g_aload_n C dX7_isomorphisms_0 rfl 0 rfl ?_
  refine g_iconst C 0 dX7_isomorphisms_1 (by decide) ?_
  refine g_put C 7 307 gin7 tyX7 tyX7_ok nmX7 0 rfl rfl 24 (by decide) mw_5_109 rfl rfl (ty := .int) (by decide +kernel) rfl rfl (Nat.le_of_ble_eq_true rfl) [(a0, .inr (7, [.int (q7_thrown o0), .ref a0_buffer, .int (q7_length o0), .int (q7_at o0), .int (q7_from o0), .int (q7_kind o0), .int (q7_number o0), .int (q7_wrong o0), .ref a0_now, .ref a0_made, .ref a0_history, .ref a0_saved, .int (q7_entries o0), .int (q7_isSaved o0), .ref a0_closed, .ref a0_faces, .ref a0_rankOf, .ref a0_placeOf, .int (q7_faceMany o0), .int (q7_isLaid o0), .ref a0_counted, .ref a0_steps, .ref a0_onto, .ref a0_goes, .int 0, .int (q7_images o0), .ref a0_firstImage, .int (q7_gathered o0)])), (a0_now, .inl (zI Z, 12, .inl (q7_now o0))), (a0_saved, .inl (zI Z, 12, .inl (q7_saved o0))), (a0_onto, .inl (zI Z, 12, .inl (q7_onto o0))), (a0_goes, .inl (zI Z, 8, .inl (q7_goes o0))), (a0_firstImage, .inl (zI Z, 8, .inl (q7_firstImage o0)))] rfl dX7_isomorphisms_2 ?_
  refine g_aload_n C dX7_isomorphisms_5 rfl 0 rfl ?_
  refine g_iconst C 0 dX7_isomorphisms_6 (by decide) ?_
  refine g_put C 7 310 gin7 tyX7 tyX7_ok nmX7 0 rfl rfl 25 (by decide) mw_5_110 rfl rfl (ty := .int) (by decide +kernel) rfl rfl (Nat.le_of_ble_eq_true rfl) [(a0, .inr (7, [.int (q7_thrown o0), .ref a0_buffer, .int (q7_length o0), .int (q7_at o0), .int (q7_from o0), .int (q7_kind o0), .int (q7_number o0), .int (q7_wrong o0), .ref a0_now, .ref a0_made, .ref a0_history, .ref a0_saved, .int (q7_entries o0), .int (q7_isSaved o0), .ref a0_closed, .ref a0_faces, .ref a0_rankOf, .ref a0_placeOf, .int (q7_faceMany o0), .int (q7_isLaid o0), .ref a0_counted, .ref a0_steps, .ref a0_onto, .ref a0_goes, .int 0, .int 0, .ref a0_firstImage, .int (q7_gathered o0)])), (a0_now, .inl (zI Z, 12, .inl (q7_now o0))), (a0_saved, .inl (zI Z, 12, .inl (q7_saved o0))), (a0_onto, .inl (zI Z, 12, .inl (q7_onto o0))), (a0_goes, .inl (zI Z, 8, .inl (q7_goes o0))), (a0_firstImage, .inl (zI Z, 8, .inl (q7_firstImage o0)))] rfl dX7_isomorphisms_7 ?_
  refine g_aload_n C dX7_isomorphisms_10 rfl 0 rfl ?_
  refine g_iload_n C dX7_isomorphisms_11 rfl 2 rfl ?_
  refine g_put C 7 313 gin7 tyX7 tyX7_ok nmX7 0 rfl rfl 27 (by decide) mw_5_112 rfl rfl (ty := .int) (by decide +kernel) rfl rfl (Nat.le_of_ble_eq_true rfl) [(a0, .inr (7, [.int (q7_thrown o0), .ref a0_buffer, .int (q7_length o0), .int (q7_at o0), .int (q7_from o0), .int (q7_kind o0), .int (q7_number o0), .int (q7_wrong o0), .ref a0_now, .ref a0_made, .ref a0_history, .ref a0_saved, .int (q7_entries o0), .int (q7_isSaved o0), .ref a0_closed, .ref a0_faces, .ref a0_rankOf, .ref a0_placeOf, .int (q7_faceMany o0), .int (q7_isLaid o0), .ref a0_counted, .ref a0_steps, .ref a0_onto, .ref a0_goes, .int 0, .int 0, .ref a0_firstImage, .int p2])), (a0_now, .inl (zI Z, 12, .inl (q7_now o0))), (a0_saved, .inl (zI Z, 12, .inl (q7_saved o0))), (a0_onto, .inl (zI Z, 12, .inl (q7_onto o0))), (a0_goes, .inl (zI Z, 8, .inl (q7_goes o0))), (a0_firstImage, .inl (zI Z, 8, .inl (q7_firstImage o0)))] rfl dX7_isomorphisms_12 ?_
  refine g_aload_n C dX7_isomorphisms_15 rfl 1 rfl ?_
  refine g_iconst C 0 dX7_isomorphisms_16 (by decide) ?_
  refine g_iald C 2 rfl (by decide) dX7_isomorphisms_17 ?_
  refine g_aload_n C dX7_isomorphisms_18 rfl 0 rfl ?_
  refine g_get C 7 13 gin7 0 rfl rfl 8 (by decide) mw_5_93 rfl rfl dX7_isomorphisms_19 ?_
  refine g_iconst C 0 dX7_isomorphisms_22 (by decide) ?_
  refine g_iald C 1 rfl (by decide) dX7_isomorphisms_23 ?_
  refine g_icmp_ne C 39 dX7_isomorphisms_24 (by decide) (fun c1 => ?_) (fun c1 => ?_)
  · replace h := it_f c1 h
    refine g_iconst C 0 dX7_isomorphisms_39 (by decide) ?_
    obtain rfl := Option.some.inj h
    subst hQ
    exact g_iret C rfl hr hlk dX7_isomorphisms_40 [0, 1, 2, 3, 4, 5] rfl (by decide)
  · replace h := it_t c1 h
    refine g_aload_n C dX7_isomorphisms_27 rfl 1 rfl ?_
    refine g_iconst C 1 dX7_isomorphisms_28 (by decide) ?_
    refine g_iald C 2 rfl (by decide) dX7_isomorphisms_29 ?_
    refine g_aload_n C dX7_isomorphisms_30 rfl 0 rfl ?_
    refine g_get C 7 13 gin7 0 rfl rfl 8 (by decide) mw_5_93 rfl rfl dX7_isomorphisms_31 ?_
    refine g_iconst C 1 dX7_isomorphisms_34 (by decide) ?_
    refine g_iald C 1 rfl (by decide) dX7_isomorphisms_35 ?_
    refine g_icmp_eq C 41 dX7_isomorphisms_36 (by decide) (fun c2 => ?_) (fun c2 => ?_)
    · replace h := it_t c2 h
      refine g_iconst C 0 dX7_isomorphisms_41 (by decide) ?_
      refine g_istore_n C dX7_isomorphisms_42 rfl (by decide) [(3, .int 0), (0, .ref a0), (1, .ref a0_saved), (2, .int p2)] rfl ?_
      refine g_lv [1, 2, 0] [(0, .ref a0), (1, .ref a0_saved), (3, .int 0)] rfl ?_
      refine g_loop (lvf := fun v3 => [(0, .ref a0), (1, .ref a0_saved), (3, .int v3.1)]) (wsf := fun v3 => [(a0, .inr (7, [.int (q7_thrown o0), .ref a0_buffer, .int (q7_length o0), .int (q7_at o0), .int (q7_from o0), .int (q7_kind o0), .int (q7_number o0), .int (q7_wrong o0), .ref a0_now, .ref a0_made, .ref a0_history, .ref a0_saved, .int (q7_entries o0), .int (q7_isSaved o0), .ref a0_closed, .ref a0_faces, .ref a0_rankOf, .ref a0_placeOf, .int (q7_faceMany o0), .int (q7_isLaid o0), .ref a0_counted, .ref a0_steps, .ref a0_onto, .ref a0_goes, .int 0, .int 0, .ref a0_firstImage, .int p2])), (a0_now, .inl (zI Z, 12, .inl (q7_now o0))), (a0_saved, .inl (zI Z, 12, .inl (q7_saved o0))), (a0_onto, .inl (zI Z, 12, .inl v3.2)), (a0_goes, .inl (zI Z, 8, .inl (q7_goes o0))), (a0_firstImage, .inl (zI Z, 8, .inl (q7_firstImage o0)))]) h (fun v3 y1 h hk1 hx1 => ?_)
      refine g_eq (lv1 := [(0, .ref a0), (1, .ref a0_saved), (3, .int v3.1)]) (st1 := []) (ws1 := [(a0, .inr (7, [.int (q7_thrown o0), .ref a0_buffer, .int (q7_length o0), .int (q7_at o0), .int (q7_from o0), .int (q7_kind o0), .int (q7_number o0), .int (q7_wrong o0), .ref a0_now, .ref a0_made, .ref a0_history, .ref a0_saved, .int (q7_entries o0), .int (q7_isSaved o0), .ref a0_closed, .ref a0_faces, .ref a0_rankOf, .ref a0_placeOf, .int (q7_faceMany o0), .int (q7_isLaid o0), .ref a0_counted, .ref a0_steps, .ref a0_onto, .ref a0_goes, .int 0, .int 0, .ref a0_firstImage, .int p2])), (a0_now, .inl (zI Z, 12, .inl (q7_now o0))), (a0_saved, .inl (zI Z, 12, .inl (q7_saved o0))), (a0_onto, .inl (zI Z, 12, .inl v3.2)), (a0_goes, .inl (zI Z, 8, .inl (q7_goes o0))), (a0_firstImage, .inl (zI Z, 8, .inl (q7_firstImage o0)))]) rfl rfl rfl rfl ?_
      unfold fX7_isomorphisms_L43 at h
      refine g_iload_n C dX7_isomorphisms_43 rfl 2 rfl ?_
      refine g_bipush C 12 dX7_isomorphisms_44 (by decide) ?_
      refine g_icmp_ge C 64 dX7_isomorphisms_46 (by decide) (fun c4 => ?_) (fun c4 => ?_)
      · replace h := it_t c4 h
        obtain ⟨r5, h, hy⟩ := ex_of h
        rw [hx1 r5 hy] at h
        refine g_aload_n C dX7_isomorphisms_64 rfl 0 rfl ?_
        refine g_iconst C 0 dX7_isomorphisms_65 (by decide) ?_
        refine g_aload_n C dX7_isomorphisms_66 rfl 0 rfl ?_
        obtain ⟨r6, hr7, h⟩ := bd_of h
        refine g_callVi C (kX7_all l Z a0 a0_buffer a0_now a0_made a0_history a0_saved a0_closed a0_faces a0_rankOf a0_placeOf a0_counted a0_steps a0_onto a0_goes a0_firstImage (s7_gathered (s7_images (s7_found (s7_onto o0 v3.2) 0) 0) p2) r6 hr7) 0 rfl (ci := 7) rfl rfl myX7_all 196 mw_6_96 rfl [0, 1] [2, 3, 4, 5] [4, 5, 0, 1, 2, 3] (wr := [(a0_saved, .inl (zI Z, 12, .inl (q7_saved o0))), (a0_onto, .inl (zI Z, 12, .inl v3.2)), (a0_goes, .inl (zI Z, 8, .inl (q7_goes o0))), (a0_firstImage, .inl (zI Z, 8, .inl (q7_firstImage o0)))]) rfl rfl (by decide) (by decide) (by decide) [(a0, .inr (7, [.int (q7_thrown o0), .ref a0_buffer, .int (q7_length o0), .int (q7_at o0), .int (q7_from o0), .int (q7_kind o0), .int (q7_number o0), .int (q7_wrong o0), .ref a0_now, .ref a0_made, .ref a0_history, .ref a0_saved, .int (q7_entries o0), .int (q7_isSaved o0), .ref a0_closed, .ref a0_faces, .ref a0_rankOf, .ref a0_placeOf, .int (q7_faceMany o0), .int (q7_isLaid o0), .ref a0_counted, .ref a0_steps, .ref a0_onto, .ref a0_goes, .int 0, .int 0, .ref a0_firstImage, .int p2])), (a0_now, .inl (zI Z, 12, .inl (q7_now o0))), (a0_saved, .inl (zI Z, 12, .inl (q7_saved o0))), (a0_onto, .inl (zI Z, 12, .inl v3.2)), (a0_goes, .inl (zI Z, 8, .inl (q7_goes o0))), (a0_firstImage, .inl (zI Z, 8, .inl (q7_firstImage o0)))] rfl (by decide) (Nat.le_of_ble_eq_true rfl) (by rw [hR]; exact Nat.le_of_ble_eq_true rfl) (by rw [hR]; exact Nat.le_of_ble_eq_true rfl) ⟨by rw [hR]; exact Nat.le_of_ble_eq_true rfl, by rw [hR]; exact Nat.le_of_ble_eq_true rfl⟩ rfl dX7_isomorphisms_67 ?_
        obtain ⟨r8, hr9, h⟩ := bd_of h
        refine g_callVv C (kX7_goThrough l Z 10 a0 a0_buffer a0_now a0_made a0_history a0_saved a0_closed a0_faces a0_rankOf a0_placeOf a0_counted a0_steps a0_onto a0_goes a0_firstImage (s7_gathered (s7_images (s7_found (s7_onto o0 v3.2) 0) 0) p2) 0 r6 r8 hr9) 0 rfl (ci := 7) rfl rfl myX7_goThrough 320 mw_7_113 rfl [0, 1, 3, 4, 5] [2] [1, 2, 0, 3, 4, 5] (wr := [(a0_saved, .inl (zI Z, 12, .inl (q7_saved o0)))]) rfl rfl (by decide) (by decide) (by decide) [(a0, .inr (7, [.int (q7_thrown o0), .ref a0_buffer, .int (q7_length o0), .int (q7_at o0), .int (q7_from o0), .int (q7_kind o0), .int (q7_number o0), .int (q7_wrong o0), .ref a0_now, .ref a0_made, .ref a0_history, .ref a0_saved, .int (q7_entries o0), .int (q7_isSaved o0), .ref a0_closed, .ref a0_faces, .ref a0_rankOf, .ref a0_placeOf, .int (q7_faceMany o0), .int (q7_isLaid o0), .ref a0_counted, .ref a0_steps, .ref a0_onto, .ref a0_goes, .int (q7_found r8), .int (q7_images r8), .ref a0_firstImage, .int p2])), (a0_now, .inl (zI Z, 12, .inl (q7_now o0))), (a0_saved, .inl (zI Z, 12, .inl (q7_saved o0))), (a0_onto, .inl (zI Z, 12, .inl v3.2)), (a0_goes, .inl (zI Z, 8, .inl (q7_goes r8))), (a0_firstImage, .inl (zI Z, 8, .inl (q7_firstImage r8)))] rfl (by decide) (Nat.le_of_ble_eq_true rfl) (by rw [hR]; exact Nat.le_of_ble_eq_true rfl) (by rw [hR]; exact Nat.le_of_ble_eq_true rfl) ⟨by rw [hR]; exact Nat.le_of_ble_eq_true rfl, by rw [hR]; exact Nat.le_of_ble_eq_true rfl⟩ rfl dX7_isomorphisms_70 ?_
        refine g_aload_n C dX7_isomorphisms_73 rfl 0 rfl ?_
        refine g_get C 7 307 gin7 0 rfl rfl 24 (by decide) mw_5_109 rfl rfl dX7_isomorphisms_74 ?_
        obtain rfl := Option.some.inj h
        subst hQ
        exact g_iret C rfl hr hlk dX7_isomorphisms_77 [0, 1, 2, 3, 4, 5] rfl (by decide)
      · replace h := it_f c4 h
        refine g_aload_n C dX7_isomorphisms_49 rfl 0 rfl ?_
        refine g_get C 7 43 gin7 0 rfl rfl 22 (by decide) mw_5_107 rfl rfl dX7_isomorphisms_50 ?_
        refine g_iload_n C dX7_isomorphisms_53 rfl 2 rfl ?_
        refine g_aload_n C dX7_isomorphisms_54 rfl 1 rfl ?_
        refine g_iload_n C dX7_isomorphisms_55 rfl 2 rfl ?_
        obtain ⟨hi10, h⟩ := ck_of h
        refine g_iald C 2 rfl hi10 dX7_isomorphisms_56 ?_
        obtain ⟨hi11, h⟩ := ck_of h
        refine g_iast C 3 rfl hi11 [(a0, .inr (7, [.int (q7_thrown o0), .ref a0_buffer, .int (q7_length o0), .int (q7_at o0), .int (q7_from o0), .int (q7_kind o0), .int (q7_number o0), .int (q7_wrong o0), .ref a0_now, .ref a0_made, .ref a0_history, .ref a0_saved, .int (q7_entries o0), .int (q7_isSaved o0), .ref a0_closed, .ref a0_faces, .ref a0_rankOf, .ref a0_placeOf, .int (q7_faceMany o0), .int (q7_isLaid o0), .ref a0_counted, .ref a0_steps, .ref a0_onto, .ref a0_goes, .int 0, .int 0, .ref a0_firstImage, .int p2])), (a0_now, .inl (zI Z, 12, .inl (q7_now o0))), (a0_saved, .inl (zI Z, 12, .inl (q7_saved o0))), (a0_onto, .inl (zI Z, 12, .inl (upd v3.2 (ix v3.1) ((q7_saved o0) (ix v3.1))))), (a0_goes, .inl (zI Z, 8, .inl (q7_goes o0))), (a0_firstImage, .inl (zI Z, 8, .inl (q7_firstImage o0)))] rfl dX7_isomorphisms_57 ?_
        refine g_iinc C (v3.1 + 1) dX7_isomorphisms_58 2 rfl rfl (by decide) [(3, .int (v3.1 + 1)), (0, .ref a0), (1, .ref a0_saved)] rfl ?_
        refine g_goto C 43 dX7_isomorphisms_61 (by decide) ?_
        refine g_lv [1, 2, 0] [(0, .ref a0), (1, .ref a0_saved), (3, .int (v3.1 + 1))] rfl ?_
        exact hk1 ((v3.1 + 1), (upd v3.2 (ix v3.1) ((q7_saved o0) (ix v3.1)))) (Option.some.inj h).symm
    · replace h := it_f c2 h
      refine g_iconst C 0 dX7_isomorphisms_39 (by decide) ?_
      obtain rfl := Option.some.inj h
      subst hQ
      exact g_iret C rfl hr hlk dX7_isomorphisms_40 [0, 1, 2, 3, 4, 5] rfl (by decide)
def fX7_automorphisms (o0 : OX7) : Option (Int32 × OX7) :=
  (fX7_isomorphisms (s7_thrown o0 0) (q7_now o0) 0).bind fun r1 =>
  (some (r1.1, (s7_gathered (s7_firstImage (s7_images (s7_found (s7_goes (s7_onto (s7_thrown o0 0) (q7_onto r1.2)) (q7_goes r1.2)) (q7_found r1.2)) (q7_images r1.2)) (q7_firstImage r1.2)) (q7_gathered r1.2))))
theorem myX7_automorphisms : MYv yX7_automorphisms cX7_automorphisms 1 (some .int) 0 := ⟨mw_7_106, mw_7_107, mw_7_108, mw_1_9, ⟨by decide +kernel, by decide +kernel⟩, by decide +kernel⟩
set_option maxRecDepth 100000 in
set_option maxHeartbeats 4000000 in
theorem kX7_automorphisms (l : Launch) (Z : GZ) (a0 a0_buffer a0_now a0_made a0_history a0_saved a0_closed a0_faces a0_rankOf a0_placeOf a0_counted a0_steps a0_onto a0_goes a0_firstImage : Nat) (o0 : OX7) (res : Int32 × OX7) (h : fX7_automorphisms o0 = some res) : MI l Z yX7_automorphisms cX7_automorphisms 1 .int 15 344 [.ref a0] [(a0, .inr (7, [.int (q7_thrown o0), .ref a0_buffer, .int (q7_length o0), .int (q7_at o0), .int (q7_from o0), .int (q7_kind o0), .int (q7_number o0), .int (q7_wrong o0), .ref a0_now, .ref a0_made, .ref a0_history, .ref a0_saved, .int (q7_entries o0), .int (q7_isSaved o0), .ref a0_closed, .ref a0_faces, .ref a0_rankOf, .ref a0_placeOf, .int (q7_faceMany o0), .int (q7_isLaid o0), .ref a0_counted, .ref a0_steps, .ref a0_onto, .ref a0_goes, .int (q7_found o0), .int (q7_images o0), .ref a0_firstImage, .int (q7_gathered o0)])), (a0_now, .inl (zI Z, 12, .inl (q7_now o0))), (a0_onto, .inl (zI Z, 12, .inl (q7_onto o0))), (a0_goes, .inl (zI Z, 8, .inl (q7_goes o0))), (a0_firstImage, .inl (zI Z, 8, .inl (q7_firstImage o0)))] res.1 [(a0, .inr (7, [.int (q7_thrown res.2), .ref a0_buffer, .int (q7_length o0), .int (q7_at o0), .int (q7_from o0), .int (q7_kind o0), .int (q7_number o0), .int (q7_wrong o0), .ref a0_now, .ref a0_made, .ref a0_history, .ref a0_saved, .int (q7_entries o0), .int (q7_isSaved o0), .ref a0_closed, .ref a0_faces, .ref a0_rankOf, .ref a0_placeOf, .int (q7_faceMany o0), .int (q7_isLaid o0), .ref a0_counted, .ref a0_steps, .ref a0_onto, .ref a0_goes, .int (q7_found res.2), .int (q7_images res.2), .ref a0_firstImage, .int (q7_gathered res.2)])), (a0_now, .inl (zI Z, 12, .inl (q7_now o0))), (a0_onto, .inl (zI Z, 12, .inl (q7_onto res.2))), (a0_goes, .inl (zI Z, 8, .inl (q7_goes res.2))), (a0_firstImage, .inl (zI Z, 8, .inl (q7_firstImage res.2)))] := by
  refine MI_of (by decide +kernel) (Nat.le_of_ble_eq_true rfl) (fun {p e s m args below meth c} A R hR Q hQ C hr hlk => ?_)
  unfold fX7_automorphisms at h
  refine g_lv [0] [(0, .ref a0)] rfl ?_
  refine g_aload_n C dX7_automorphisms_0 rfl 0 rfl ?_
  refine g_iconst C 0 dX7_automorphisms_1 (by decide) ?_
  refine g_put C 7 52 gin7 tyX7 tyX7_ok nmX7 0 rfl rfl 0 (by decide) mw_5_85 rfl rfl (ty := .int) (by decide +kernel) rfl rfl (Nat.le_of_ble_eq_true rfl) [(a0, .inr (7, [.int 0, .ref a0_buffer, .int (q7_length o0), .int (q7_at o0), .int (q7_from o0), .int (q7_kind o0), .int (q7_number o0), .int (q7_wrong o0), .ref a0_now, .ref a0_made, .ref a0_history, .ref a0_saved, .int (q7_entries o0), .int (q7_isSaved o0), .ref a0_closed, .ref a0_faces, .ref a0_rankOf, .ref a0_placeOf, .int (q7_faceMany o0), .int (q7_isLaid o0), .ref a0_counted, .ref a0_steps, .ref a0_onto, .ref a0_goes, .int (q7_found o0), .int (q7_images o0), .ref a0_firstImage, .int (q7_gathered o0)])), (a0_now, .inl (zI Z, 12, .inl (q7_now o0))), (a0_onto, .inl (zI Z, 12, .inl (q7_onto o0))), (a0_goes, .inl (zI Z, 8, .inl (q7_goes o0))), (a0_firstImage, .inl (zI Z, 8, .inl (q7_firstImage o0)))] rfl dX7_automorphisms_2 ?_
  refine g_aload_n C dX7_automorphisms_5 rfl 0 rfl ?_
  refine g_aload_n C dX7_automorphisms_6 rfl 0 rfl ?_
  refine g_get C 7 13 gin7 0 rfl rfl 8 (by decide) mw_5_93 rfl rfl dX7_automorphisms_7 ?_
  refine g_iconst C 0 dX7_automorphisms_10 (by decide) ?_
  obtain ⟨r1, hr2, h⟩ := bd_of h
  refine g_callVi C (kX7_isomorphisms_s10_now l Z a0 a0_buffer a0_now a0_made a0_history a0_saved a0_closed a0_faces a0_rankOf a0_placeOf a0_counted a0_steps a0_onto a0_goes a0_firstImage (s7_thrown o0 0) (q7_now o0) 0 r1 hr2) 0 rfl (ci := 7) rfl rfl myX7_isomorphisms 324 mw_7_109 rfl [0, 1, 2, 3, 4] [] [0, 1, 2, 3, 4] (wr := []) rfl rfl (by decide) (by decide) (by decide) [(a0, .inr (7, [.int 0, .ref a0_buffer, .int (q7_length o0), .int (q7_at o0), .int (q7_from o0), .int (q7_kind o0), .int (q7_number o0), .int (q7_wrong o0), .ref a0_now, .ref a0_made, .ref a0_history, .ref a0_saved, .int (q7_entries o0), .int (q7_isSaved o0), .ref a0_closed, .ref a0_faces, .ref a0_rankOf, .ref a0_placeOf, .int (q7_faceMany o0), .int (q7_isLaid o0), .ref a0_counted, .ref a0_steps, .ref a0_onto, .ref a0_goes, .int (q7_found r1.2), .int (q7_images r1.2), .ref a0_firstImage, .int (q7_gathered r1.2)])), (a0_now, .inl (zI Z, 12, .inl (q7_now o0))), (a0_onto, .inl (zI Z, 12, .inl (q7_onto r1.2))), (a0_goes, .inl (zI Z, 8, .inl (q7_goes r1.2))), (a0_firstImage, .inl (zI Z, 8, .inl (q7_firstImage r1.2)))] rfl (by decide) (Nat.le_of_ble_eq_true rfl) (by rw [hR]; exact Nat.le_of_ble_eq_true rfl) (by rw [hR]; exact Nat.le_of_ble_eq_true rfl) ⟨by rw [hR]; exact Nat.le_of_ble_eq_true rfl, by rw [hR]; exact Nat.le_of_ble_eq_true rfl⟩ rfl dX7_automorphisms_11 ?_
  obtain rfl := Option.some.inj h
  subst hQ
  exact g_iret C rfl hr hlk dX7_automorphisms_14 [0, 1, 2, 3, 4] rfl (by decide)
def fX7_orbit (o0 : OX7) (p1 : Int32) : Option (Int32 × OX7) :=
  (fX7_isPoint (s7_thrown o0 0) p1).bind fun r1 =>
  ((fX7_fails (s7_thrown o0 0) r1 1).bind fun r3 =>
  (if r3.1 = 0 then ((fX7_isomorphisms (s7_thrown o0 (q7_thrown r3.2)) (q7_now o0) p1).bind fun r6 =>
  (some ((q7_images r6.2), (s7_gathered (s7_firstImage (s7_images (s7_found (s7_goes (s7_onto (s7_thrown o0 (q7_thrown r3.2)) (q7_onto r6.2)) (q7_goes r6.2)) (q7_found r6.2)) (q7_images r6.2)) (q7_firstImage r6.2)) (q7_gathered r6.2)))))
  else (some (0, (s7_thrown o0 (q7_thrown r3.2))))))
theorem myX7_orbit : MYv yX7_orbit cX7_orbit 3 (some .int) 1 := ⟨mw_7_129, mw_7_130, mw_7_131, mw_1_9, ⟨by decide +kernel, by decide +kernel⟩, by decide +kernel⟩
set_option maxRecDepth 100000 in
set_option maxHeartbeats 4000000 in
theorem kX7_orbit (l : Launch) (Z : GZ) (a0 a0_buffer a0_now a0_made a0_history a0_saved a0_closed a0_faces a0_rankOf a0_placeOf a0_counted a0_steps a0_onto a0_goes a0_firstImage : Nat) (o0 : OX7) (p1 : Int32) (res : Int32 × OX7) (h : fX7_orbit o0 p1 = some res) : MI l Z yX7_orbit cX7_orbit 3 .int 15 344 [.ref a0, .int p1] [(a0, .inr (7, [.int (q7_thrown o0), .ref a0_buffer, .int (q7_length o0), .int (q7_at o0), .int (q7_from o0), .int (q7_kind o0), .int (q7_number o0), .int (q7_wrong o0), .ref a0_now, .ref a0_made, .ref a0_history, .ref a0_saved, .int (q7_entries o0), .int (q7_isSaved o0), .ref a0_closed, .ref a0_faces, .ref a0_rankOf, .ref a0_placeOf, .int (q7_faceMany o0), .int (q7_isLaid o0), .ref a0_counted, .ref a0_steps, .ref a0_onto, .ref a0_goes, .int (q7_found o0), .int (q7_images o0), .ref a0_firstImage, .int (q7_gathered o0)])), (a0_now, .inl (zI Z, 12, .inl (q7_now o0))), (a0_onto, .inl (zI Z, 12, .inl (q7_onto o0))), (a0_goes, .inl (zI Z, 8, .inl (q7_goes o0))), (a0_firstImage, .inl (zI Z, 8, .inl (q7_firstImage o0)))] res.1 [(a0, .inr (7, [.int (q7_thrown res.2), .ref a0_buffer, .int (q7_length o0), .int (q7_at o0), .int (q7_from o0), .int (q7_kind o0), .int (q7_number o0), .int (q7_wrong o0), .ref a0_now, .ref a0_made, .ref a0_history, .ref a0_saved, .int (q7_entries o0), .int (q7_isSaved o0), .ref a0_closed, .ref a0_faces, .ref a0_rankOf, .ref a0_placeOf, .int (q7_faceMany o0), .int (q7_isLaid o0), .ref a0_counted, .ref a0_steps, .ref a0_onto, .ref a0_goes, .int (q7_found res.2), .int (q7_images res.2), .ref a0_firstImage, .int (q7_gathered res.2)])), (a0_now, .inl (zI Z, 12, .inl (q7_now o0))), (a0_onto, .inl (zI Z, 12, .inl (q7_onto res.2))), (a0_goes, .inl (zI Z, 8, .inl (q7_goes res.2))), (a0_firstImage, .inl (zI Z, 8, .inl (q7_firstImage res.2)))] := by
  refine MI_of (by decide +kernel) (Nat.le_of_ble_eq_true rfl) (fun {p e s m args below meth c} A R hR Q hQ C hr hlk => ?_)
  unfold fX7_orbit at h
  refine g_lv [0, 1] [(0, .ref a0), (1, .int p1)] rfl ?_
  refine g_aload_n C dX7_orbit_0 rfl 0 rfl ?_
  refine g_iconst C 0 dX7_orbit_1 (by decide) ?_
  refine g_put C 7 52 gin7 tyX7 tyX7_ok nmX7 0 rfl rfl 0 (by decide) mw_5_85 rfl rfl (ty := .int) (by decide +kernel) rfl rfl (Nat.le_of_ble_eq_true rfl) [(a0, .inr (7, [.int 0, .ref a0_buffer, .int (q7_length o0), .int (q7_at o0), .int (q7_from o0), .int (q7_kind o0), .int (q7_number o0), .int (q7_wrong o0), .ref a0_now, .ref a0_made, .ref a0_history, .ref a0_saved, .int (q7_entries o0), .int (q7_isSaved o0), .ref a0_closed, .ref a0_faces, .ref a0_rankOf, .ref a0_placeOf, .int (q7_faceMany o0), .int (q7_isLaid o0), .ref a0_counted, .ref a0_steps, .ref a0_onto, .ref a0_goes, .int (q7_found o0), .int (q7_images o0), .ref a0_firstImage, .int (q7_gathered o0)])), (a0_now, .inl (zI Z, 12, .inl (q7_now o0))), (a0_onto, .inl (zI Z, 12, .inl (q7_onto o0))), (a0_goes, .inl (zI Z, 8, .inl (q7_goes o0))), (a0_firstImage, .inl (zI Z, 8, .inl (q7_firstImage o0)))] rfl dX7_orbit_2 ?_
  refine g_aload_n C dX7_orbit_5 rfl 0 rfl ?_
  refine g_aload_n C dX7_orbit_6 rfl 0 rfl ?_
  refine g_iload_n C dX7_orbit_7 rfl 1 rfl ?_
  obtain ⟨r1, hr2, h⟩ := bd_of h
  refine g_callVi C (kX7_isPoint l Z a0 a0_buffer a0_now a0_made a0_history a0_saved a0_closed a0_faces a0_rankOf a0_placeOf a0_counted a0_steps a0_onto a0_goes a0_firstImage (s7_thrown o0 0) p1 r1 hr2) 0 rfl (ci := 7) rfl rfl myX7_isPoint 220 mw_6_76 rfl [0, 1] [2, 3, 4] [3, 4, 0, 1, 2] (wr := [(a0_onto, .inl (zI Z, 12, .inl (q7_onto o0))), (a0_goes, .inl (zI Z, 8, .inl (q7_goes o0))), (a0_firstImage, .inl (zI Z, 8, .inl (q7_firstImage o0)))]) rfl rfl (by decide) (by decide) (by decide) [(a0, .inr (7, [.int 0, .ref a0_buffer, .int (q7_length o0), .int (q7_at o0), .int (q7_from o0), .int (q7_kind o0), .int (q7_number o0), .int (q7_wrong o0), .ref a0_now, .ref a0_made, .ref a0_history, .ref a0_saved, .int (q7_entries o0), .int (q7_isSaved o0), .ref a0_closed, .ref a0_faces, .ref a0_rankOf, .ref a0_placeOf, .int (q7_faceMany o0), .int (q7_isLaid o0), .ref a0_counted, .ref a0_steps, .ref a0_onto, .ref a0_goes, .int (q7_found o0), .int (q7_images o0), .ref a0_firstImage, .int (q7_gathered o0)])), (a0_now, .inl (zI Z, 12, .inl (q7_now o0))), (a0_onto, .inl (zI Z, 12, .inl (q7_onto o0))), (a0_goes, .inl (zI Z, 8, .inl (q7_goes o0))), (a0_firstImage, .inl (zI Z, 8, .inl (q7_firstImage o0)))] rfl (by decide) (Nat.le_of_ble_eq_true rfl) (by rw [hR]; exact Nat.le_of_ble_eq_true rfl) (by rw [hR]; exact Nat.le_of_ble_eq_true rfl) ⟨by rw [hR]; exact Nat.le_of_ble_eq_true rfl, by rw [hR]; exact Nat.le_of_ble_eq_true rfl⟩ rfl dX7_orbit_8 ?_
  refine g_iconst C 1 dX7_orbit_11 (by decide) ?_
  obtain ⟨r3, hr4, h⟩ := bd_of h
  refine g_callVi C (kX7_fails l Z a0 a0_buffer a0_now a0_made a0_history a0_saved a0_closed a0_faces a0_rankOf a0_placeOf a0_counted a0_steps a0_onto a0_goes a0_firstImage (s7_thrown o0 0) r1 1 r3 hr4) 0 rfl (ci := 7) rfl rfl myX7_fails 63 mw_5_181 rfl [0] [1, 2, 3, 4] [4, 0, 1, 2, 3] (wr := [(a0_now, .inl (zI Z, 12, .inl (q7_now o0))), (a0_onto, .inl (zI Z, 12, .inl (q7_onto o0))), (a0_goes, .inl (zI Z, 8, .inl (q7_goes o0))), (a0_firstImage, .inl (zI Z, 8, .inl (q7_firstImage o0)))]) rfl rfl (by decide) (by decide) (by decide) [(a0, .inr (7, [.int (q7_thrown r3.2), .ref a0_buffer, .int (q7_length o0), .int (q7_at o0), .int (q7_from o0), .int (q7_kind o0), .int (q7_number o0), .int (q7_wrong o0), .ref a0_now, .ref a0_made, .ref a0_history, .ref a0_saved, .int (q7_entries o0), .int (q7_isSaved o0), .ref a0_closed, .ref a0_faces, .ref a0_rankOf, .ref a0_placeOf, .int (q7_faceMany o0), .int (q7_isLaid o0), .ref a0_counted, .ref a0_steps, .ref a0_onto, .ref a0_goes, .int (q7_found o0), .int (q7_images o0), .ref a0_firstImage, .int (q7_gathered o0)])), (a0_now, .inl (zI Z, 12, .inl (q7_now o0))), (a0_onto, .inl (zI Z, 12, .inl (q7_onto o0))), (a0_goes, .inl (zI Z, 8, .inl (q7_goes o0))), (a0_firstImage, .inl (zI Z, 8, .inl (q7_firstImage o0)))] rfl (by decide) (Nat.le_of_ble_eq_true rfl) (by rw [hR]; exact Nat.le_of_ble_eq_true rfl) (by rw [hR]; exact Nat.le_of_ble_eq_true rfl) ⟨by rw [hR]; exact Nat.le_of_ble_eq_true rfl, by rw [hR]; exact Nat.le_of_ble_eq_true rfl⟩ rfl dX7_orbit_12 ?_
  refine g_if_eq C 20 dX7_orbit_15 (by decide) (fun c5 => ?_) (fun c5 => ?_)
  · replace h := it_t c5 h
    refine g_aload_n C dX7_orbit_20 rfl 0 rfl ?_
    refine g_aload_n C dX7_orbit_21 rfl 0 rfl ?_
    refine g_get C 7 13 gin7 0 rfl rfl 8 (by decide) mw_5_93 rfl rfl dX7_orbit_22 ?_
    refine g_iload_n C dX7_orbit_25 rfl 1 rfl ?_
    obtain ⟨r6, hr7, h⟩ := bd_of h
    refine g_callVi C (kX7_isomorphisms_s10_now l Z a0 a0_buffer a0_now a0_made a0_history a0_saved a0_closed a0_faces a0_rankOf a0_placeOf a0_counted a0_steps a0_onto a0_goes a0_firstImage (s7_thrown o0 (q7_thrown r3.2)) (q7_now o0) p1 r6 hr7) 0 rfl (ci := 7) rfl rfl myX7_isomorphisms 324 mw_7_109 rfl [0, 1, 2, 3, 4] [] [0, 1, 2, 3, 4] (wr := []) rfl rfl (by decide) (by decide) (by decide) [(a0, .inr (7, [.int (q7_thrown r3.2), .ref a0_buffer, .int (q7_length o0), .int (q7_at o0), .int (q7_from o0), .int (q7_kind o0), .int (q7_number o0), .int (q7_wrong o0), .ref a0_now, .ref a0_made, .ref a0_history, .ref a0_saved, .int (q7_entries o0), .int (q7_isSaved o0), .ref a0_closed, .ref a0_faces, .ref a0_rankOf, .ref a0_placeOf, .int (q7_faceMany o0), .int (q7_isLaid o0), .ref a0_counted, .ref a0_steps, .ref a0_onto, .ref a0_goes, .int (q7_found r6.2), .int (q7_images r6.2), .ref a0_firstImage, .int (q7_gathered r6.2)])), (a0_now, .inl (zI Z, 12, .inl (q7_now o0))), (a0_onto, .inl (zI Z, 12, .inl (q7_onto r6.2))), (a0_goes, .inl (zI Z, 8, .inl (q7_goes r6.2))), (a0_firstImage, .inl (zI Z, 8, .inl (q7_firstImage r6.2)))] rfl (by decide) (Nat.le_of_ble_eq_true rfl) (by rw [hR]; exact Nat.le_of_ble_eq_true rfl) (by rw [hR]; exact Nat.le_of_ble_eq_true rfl) ⟨by rw [hR]; exact Nat.le_of_ble_eq_true rfl, by rw [hR]; exact Nat.le_of_ble_eq_true rfl⟩ rfl dX7_orbit_26 ?_
    refine g_istore_n C dX7_orbit_29 rfl (by decide) [(2, .int r6.1), (0, .ref a0), (1, .int p1)] rfl ?_
    refine g_aload_n C dX7_orbit_30 rfl 1 rfl ?_
    refine g_get C 7 310 gin7 0 rfl rfl 25 (by decide) mw_5_110 rfl rfl dX7_orbit_31 ?_
    obtain rfl := Option.some.inj h
    subst hQ
    exact g_iret C rfl hr hlk dX7_orbit_34 [0, 1, 2, 3, 4] rfl (by decide)
  · replace h := it_f c5 h
    refine g_iconst C 0 dX7_orbit_18 (by decide) ?_
    obtain rfl := Option.some.inj h
    subst hQ
    exact g_iret C rfl hr hlk dX7_orbit_19 [0, 1, 2, 3, 4] rfl (by decide)
def fX7_isLike (o0 : OX7) : Option (Int32 × OX7) :=
  (fX7_fails (s7_thrown o0 0) (q7_isSaved o0) 1).bind fun r1 =>
  (if r1.1 = 0 then ((fX7_isomorphisms (s7_thrown o0 (q7_thrown r1.2)) (q7_saved o0) 0).bind fun r4 =>
  (if r4.1 ≤ 0 then (some (0, (s7_gathered (s7_firstImage (s7_images (s7_found (s7_goes (s7_onto (s7_thrown o0 (q7_thrown r1.2)) (q7_onto r4.2)) (q7_goes r4.2)) (q7_found r4.2)) (q7_images r4.2)) (q7_firstImage r4.2)) (q7_gathered r4.2))))
  else (some (1, (s7_gathered (s7_firstImage (s7_images (s7_found (s7_goes (s7_onto (s7_thrown o0 (q7_thrown r1.2)) (q7_onto r4.2)) (q7_goes r4.2)) (q7_found r4.2)) (q7_images r4.2)) (q7_firstImage r4.2)) (q7_gathered r4.2))))))
  else (some (0, (s7_thrown o0 (q7_thrown r1.2)))))
theorem myX7_isLike : MYv yX7_isLike cX7_isLike 1 (some .boolean) 0 := ⟨mw_7_133, mw_7_134, mw_7_135, mw_1_9, ⟨by decide +kernel, by decide +kernel⟩, by decide +kernel⟩
set_option maxRecDepth 100000 in
set_option maxHeartbeats 4000000 in
theorem kX7_isLike (l : Launch) (Z : GZ) (a0 a0_buffer a0_now a0_made a0_history a0_saved a0_closed a0_faces a0_rankOf a0_placeOf a0_counted a0_steps a0_onto a0_goes a0_firstImage : Nat) (o0 : OX7) (res : Int32 × OX7) (h : fX7_isLike o0 = some res) : MI l Z yX7_isLike cX7_isLike 1 .boolean 15 344 [.ref a0] [(a0, .inr (7, [.int (q7_thrown o0), .ref a0_buffer, .int (q7_length o0), .int (q7_at o0), .int (q7_from o0), .int (q7_kind o0), .int (q7_number o0), .int (q7_wrong o0), .ref a0_now, .ref a0_made, .ref a0_history, .ref a0_saved, .int (q7_entries o0), .int (q7_isSaved o0), .ref a0_closed, .ref a0_faces, .ref a0_rankOf, .ref a0_placeOf, .int (q7_faceMany o0), .int (q7_isLaid o0), .ref a0_counted, .ref a0_steps, .ref a0_onto, .ref a0_goes, .int (q7_found o0), .int (q7_images o0), .ref a0_firstImage, .int (q7_gathered o0)])), (a0_now, .inl (zI Z, 12, .inl (q7_now o0))), (a0_saved, .inl (zI Z, 12, .inl (q7_saved o0))), (a0_onto, .inl (zI Z, 12, .inl (q7_onto o0))), (a0_goes, .inl (zI Z, 8, .inl (q7_goes o0))), (a0_firstImage, .inl (zI Z, 8, .inl (q7_firstImage o0)))] res.1 [(a0, .inr (7, [.int (q7_thrown res.2), .ref a0_buffer, .int (q7_length o0), .int (q7_at o0), .int (q7_from o0), .int (q7_kind o0), .int (q7_number o0), .int (q7_wrong o0), .ref a0_now, .ref a0_made, .ref a0_history, .ref a0_saved, .int (q7_entries o0), .int (q7_isSaved o0), .ref a0_closed, .ref a0_faces, .ref a0_rankOf, .ref a0_placeOf, .int (q7_faceMany o0), .int (q7_isLaid o0), .ref a0_counted, .ref a0_steps, .ref a0_onto, .ref a0_goes, .int (q7_found res.2), .int (q7_images res.2), .ref a0_firstImage, .int (q7_gathered res.2)])), (a0_now, .inl (zI Z, 12, .inl (q7_now o0))), (a0_saved, .inl (zI Z, 12, .inl (q7_saved o0))), (a0_onto, .inl (zI Z, 12, .inl (q7_onto res.2))), (a0_goes, .inl (zI Z, 8, .inl (q7_goes res.2))), (a0_firstImage, .inl (zI Z, 8, .inl (q7_firstImage res.2)))] := by
  refine MI_of (by decide +kernel) (Nat.le_of_ble_eq_true rfl) (fun {p e s m args below meth c} A R hR Q hQ C hr hlk => ?_)
  unfold fX7_isLike at h
  refine g_lv [0] [(0, .ref a0)] rfl ?_
  refine g_aload_n C dX7_isLike_0 rfl 0 rfl ?_
  refine g_iconst C 0 dX7_isLike_1 (by decide) ?_
  refine g_put C 7 52 gin7 tyX7 tyX7_ok nmX7 0 rfl rfl 0 (by decide) mw_5_85 rfl rfl (ty := .int) (by decide +kernel) rfl rfl (Nat.le_of_ble_eq_true rfl) [(a0, .inr (7, [.int 0, .ref a0_buffer, .int (q7_length o0), .int (q7_at o0), .int (q7_from o0), .int (q7_kind o0), .int (q7_number o0), .int (q7_wrong o0), .ref a0_now, .ref a0_made, .ref a0_history, .ref a0_saved, .int (q7_entries o0), .int (q7_isSaved o0), .ref a0_closed, .ref a0_faces, .ref a0_rankOf, .ref a0_placeOf, .int (q7_faceMany o0), .int (q7_isLaid o0), .ref a0_counted, .ref a0_steps, .ref a0_onto, .ref a0_goes, .int (q7_found o0), .int (q7_images o0), .ref a0_firstImage, .int (q7_gathered o0)])), (a0_now, .inl (zI Z, 12, .inl (q7_now o0))), (a0_saved, .inl (zI Z, 12, .inl (q7_saved o0))), (a0_onto, .inl (zI Z, 12, .inl (q7_onto o0))), (a0_goes, .inl (zI Z, 8, .inl (q7_goes o0))), (a0_firstImage, .inl (zI Z, 8, .inl (q7_firstImage o0)))] rfl dX7_isLike_2 ?_
  refine g_aload_n C dX7_isLike_5 rfl 0 rfl ?_
  refine g_aload_n C dX7_isLike_6 rfl 0 rfl ?_
  refine g_get C 7 193 gin7 0 rfl rfl 13 (by decide) mw_5_98 rfl rfl dX7_isLike_7 ?_
  refine g_iconst C 1 dX7_isLike_10 (by decide) ?_
  obtain ⟨r1, hr2, h⟩ := bd_of h
  refine g_callVi C (kX7_fails l Z a0 a0_buffer a0_now a0_made a0_history a0_saved a0_closed a0_faces a0_rankOf a0_placeOf a0_counted a0_steps a0_onto a0_goes a0_firstImage (s7_thrown o0 0) (q7_isSaved o0) 1 r1 hr2) 0 rfl (ci := 7) rfl rfl myX7_fails 63 mw_5_181 rfl [0] [1, 2, 3, 4, 5] [5, 0, 1, 2, 3, 4] (wr := [(a0_now, .inl (zI Z, 12, .inl (q7_now o0))), (a0_saved, .inl (zI Z, 12, .inl (q7_saved o0))), (a0_onto, .inl (zI Z, 12, .inl (q7_onto o0))), (a0_goes, .inl (zI Z, 8, .inl (q7_goes o0))), (a0_firstImage, .inl (zI Z, 8, .inl (q7_firstImage o0)))]) rfl rfl (by decide) (by decide) (by decide) [(a0, .inr (7, [.int (q7_thrown r1.2), .ref a0_buffer, .int (q7_length o0), .int (q7_at o0), .int (q7_from o0), .int (q7_kind o0), .int (q7_number o0), .int (q7_wrong o0), .ref a0_now, .ref a0_made, .ref a0_history, .ref a0_saved, .int (q7_entries o0), .int (q7_isSaved o0), .ref a0_closed, .ref a0_faces, .ref a0_rankOf, .ref a0_placeOf, .int (q7_faceMany o0), .int (q7_isLaid o0), .ref a0_counted, .ref a0_steps, .ref a0_onto, .ref a0_goes, .int (q7_found o0), .int (q7_images o0), .ref a0_firstImage, .int (q7_gathered o0)])), (a0_now, .inl (zI Z, 12, .inl (q7_now o0))), (a0_saved, .inl (zI Z, 12, .inl (q7_saved o0))), (a0_onto, .inl (zI Z, 12, .inl (q7_onto o0))), (a0_goes, .inl (zI Z, 8, .inl (q7_goes o0))), (a0_firstImage, .inl (zI Z, 8, .inl (q7_firstImage o0)))] rfl (by decide) (Nat.le_of_ble_eq_true rfl) (by rw [hR]; exact Nat.le_of_ble_eq_true rfl) (by rw [hR]; exact Nat.le_of_ble_eq_true rfl) ⟨by rw [hR]; exact Nat.le_of_ble_eq_true rfl, by rw [hR]; exact Nat.le_of_ble_eq_true rfl⟩ rfl dX7_isLike_11 ?_
  refine g_if_ne C 33 dX7_isLike_14 (by decide) (fun c3 => ?_) (fun c3 => ?_)
  · replace h := it_f c3 h
    refine g_iconst C 0 dX7_isLike_33 (by decide) ?_
    obtain rfl := Option.some.inj h
    subst hQ
    exact g_zret C rfl (Or.inl rfl) hr hlk dX7_isLike_34 [0, 1, 2, 3, 4, 5] rfl (by decide)
  · replace h := it_t c3 h
    refine g_aload_n C dX7_isLike_17 rfl 0 rfl ?_
    refine g_aload_n C dX7_isLike_18 rfl 0 rfl ?_
    refine g_get C 7 22 gin7 0 rfl rfl 11 (by decide) mw_5_96 rfl rfl dX7_isLike_19 ?_
    refine g_iconst C 0 dX7_isLike_22 (by decide) ?_
    obtain ⟨r4, hr5, h⟩ := bd_of h
    refine g_callVi C (kX7_isomorphisms l Z a0 a0_buffer a0_now a0_made a0_history a0_saved a0_closed a0_faces a0_rankOf a0_placeOf a0_counted a0_steps a0_onto a0_goes a0_firstImage a0_saved (s7_thrown o0 (q7_thrown r1.2)) (q7_saved o0) 0 r4 hr5) 0 rfl (ci := 7) rfl rfl myX7_isomorphisms 324 mw_7_109 rfl [0, 1, 3, 4, 5, 2] [] [0, 1, 5, 2, 3, 4] (wr := []) rfl rfl (by decide) (by decide) (by decide) [(a0, .inr (7, [.int (q7_thrown r1.2), .ref a0_buffer, .int (q7_length o0), .int (q7_at o0), .int (q7_from o0), .int (q7_kind o0), .int (q7_number o0), .int (q7_wrong o0), .ref a0_now, .ref a0_made, .ref a0_history, .ref a0_saved, .int (q7_entries o0), .int (q7_isSaved o0), .ref a0_closed, .ref a0_faces, .ref a0_rankOf, .ref a0_placeOf, .int (q7_faceMany o0), .int (q7_isLaid o0), .ref a0_counted, .ref a0_steps, .ref a0_onto, .ref a0_goes, .int (q7_found r4.2), .int (q7_images r4.2), .ref a0_firstImage, .int (q7_gathered r4.2)])), (a0_now, .inl (zI Z, 12, .inl (q7_now o0))), (a0_saved, .inl (zI Z, 12, .inl (q7_saved o0))), (a0_onto, .inl (zI Z, 12, .inl (q7_onto r4.2))), (a0_goes, .inl (zI Z, 8, .inl (q7_goes r4.2))), (a0_firstImage, .inl (zI Z, 8, .inl (q7_firstImage r4.2)))] rfl (by decide) (Nat.le_of_ble_eq_true rfl) (by rw [hR]; exact Nat.le_of_ble_eq_true rfl) (by rw [hR]; exact Nat.le_of_ble_eq_true rfl) ⟨by rw [hR]; exact Nat.le_of_ble_eq_true rfl, by rw [hR]; exact Nat.le_of_ble_eq_true rfl⟩ rfl dX7_isLike_23 ?_
    refine g_if_le C 33 dX7_isLike_26 (by decide) (fun c6 => ?_) (fun c6 => ?_)
    · replace h := it_t c6 h
      refine g_iconst C 0 dX7_isLike_33 (by decide) ?_
      obtain rfl := Option.some.inj h
      subst hQ
      exact g_zret C rfl (Or.inl rfl) hr hlk dX7_isLike_34 [0, 1, 2, 3, 4, 5] rfl (by decide)
    · replace h := it_f c6 h
      refine g_iconst C 1 dX7_isLike_29 (by decide) ?_
      refine g_goto C 34 dX7_isLike_30 (by decide) ?_
      obtain rfl := Option.some.inj h
      subst hQ
      exact g_zret C rfl (Or.inr rfl) hr hlk dX7_isLike_34 [0, 1, 2, 3, 4, 5] rfl (by decide)
def fX7_image_J50 (o0 : OX7) (p1 : Int32) (r6 : Int32 × OX7) (r9 : Int32 × OX7) (x11 : Int32) : Option (Int32 × OX7) :=
  (fX7_fails (s7_gathered (s7_firstImage (s7_images (s7_found (s7_goes (s7_onto (s7_thrown o0 (q7_thrown r6.2)) (q7_onto r9.2)) (q7_goes r9.2)) (q7_found r9.2)) (q7_images r9.2)) (q7_firstImage r9.2)) (q7_gathered r9.2)) x11 3).bind fun r12 =>
  (if r12.1 = 0 then (ck (okI p1 8) (some (((q7_firstImage r9.2) (ix p1)), (s7_gathered (s7_firstImage (s7_images (s7_found (s7_goes (s7_onto (s7_thrown o0 (q7_thrown r12.2)) (q7_onto r9.2)) (q7_goes r9.2)) (q7_found r9.2)) (q7_images r9.2)) (q7_firstImage r9.2)) (q7_gathered r9.2)))))
  else (some (0, (s7_gathered (s7_firstImage (s7_images (s7_found (s7_goes (s7_onto (s7_thrown o0 (q7_thrown r12.2)) (q7_onto r9.2)) (q7_goes r9.2)) (q7_found r9.2)) (q7_images r9.2)) (q7_firstImage r9.2)) (q7_gathered r9.2)))))
def fX7_image (o0 : OX7) (p1 : Int32) : Option (Int32 × OX7) :=
  (fX7_isPoint (s7_thrown o0 0) p1).bind fun r1 =>
  ((fX7_fails (s7_thrown o0 0) r1 1).bind fun r3 =>
  (if r3.1 = 0 then ((fX7_fails (s7_thrown o0 (q7_thrown r3.2)) (q7_isSaved o0) 2).bind fun r6 =>
  (if r6.1 = 0 then ((fX7_isomorphisms (s7_thrown o0 (q7_thrown r6.2)) (q7_saved o0) 0).bind fun r9 =>
  (if r9.1 ≤ 0 then (fX7_image_J50 o0 p1 r6 r9 0)
  else (fX7_image_J50 o0 p1 r6 r9 1)))
  else (some (0, (s7_thrown o0 (q7_thrown r6.2))))))
  else (some (0, (s7_thrown o0 (q7_thrown r3.2))))))
theorem myX7_image : MYv yX7_image cX7_image 2 (some .int) 1 := ⟨mw_7_137, mw_7_138, mw_7_139, mw_1_9, ⟨by decide +kernel, by decide +kernel⟩, by decide +kernel⟩
set_option maxRecDepth 100000 in
set_option maxHeartbeats 4000000 in
theorem kX7_image (l : Launch) (Z : GZ) (a0 a0_buffer a0_now a0_made a0_history a0_saved a0_closed a0_faces a0_rankOf a0_placeOf a0_counted a0_steps a0_onto a0_goes a0_firstImage : Nat) (o0 : OX7) (p1 : Int32) (res : Int32 × OX7) (h : fX7_image o0 p1 = some res) : MI l Z yX7_image cX7_image 2 .int 15 344 [.ref a0, .int p1] [(a0, .inr (7, [.int (q7_thrown o0), .ref a0_buffer, .int (q7_length o0), .int (q7_at o0), .int (q7_from o0), .int (q7_kind o0), .int (q7_number o0), .int (q7_wrong o0), .ref a0_now, .ref a0_made, .ref a0_history, .ref a0_saved, .int (q7_entries o0), .int (q7_isSaved o0), .ref a0_closed, .ref a0_faces, .ref a0_rankOf, .ref a0_placeOf, .int (q7_faceMany o0), .int (q7_isLaid o0), .ref a0_counted, .ref a0_steps, .ref a0_onto, .ref a0_goes, .int (q7_found o0), .int (q7_images o0), .ref a0_firstImage, .int (q7_gathered o0)])), (a0_now, .inl (zI Z, 12, .inl (q7_now o0))), (a0_saved, .inl (zI Z, 12, .inl (q7_saved o0))), (a0_onto, .inl (zI Z, 12, .inl (q7_onto o0))), (a0_goes, .inl (zI Z, 8, .inl (q7_goes o0))), (a0_firstImage, .inl (zI Z, 8, .inl (q7_firstImage o0)))] res.1 [(a0, .inr (7, [.int (q7_thrown res.2), .ref a0_buffer, .int (q7_length o0), .int (q7_at o0), .int (q7_from o0), .int (q7_kind o0), .int (q7_number o0), .int (q7_wrong o0), .ref a0_now, .ref a0_made, .ref a0_history, .ref a0_saved, .int (q7_entries o0), .int (q7_isSaved o0), .ref a0_closed, .ref a0_faces, .ref a0_rankOf, .ref a0_placeOf, .int (q7_faceMany o0), .int (q7_isLaid o0), .ref a0_counted, .ref a0_steps, .ref a0_onto, .ref a0_goes, .int (q7_found res.2), .int (q7_images res.2), .ref a0_firstImage, .int (q7_gathered res.2)])), (a0_now, .inl (zI Z, 12, .inl (q7_now o0))), (a0_saved, .inl (zI Z, 12, .inl (q7_saved o0))), (a0_onto, .inl (zI Z, 12, .inl (q7_onto res.2))), (a0_goes, .inl (zI Z, 8, .inl (q7_goes res.2))), (a0_firstImage, .inl (zI Z, 8, .inl (q7_firstImage res.2)))] := by
  refine MI_of (by decide +kernel) (Nat.le_of_ble_eq_true rfl) (fun {p e s m args below meth c} A R hR Q hQ C hr hlk => ?_)
  unfold fX7_image at h
  refine g_lv [0, 1] [(0, .ref a0), (1, .int p1)] rfl ?_
  refine g_aload_n C dX7_image_0 rfl 0 rfl ?_
  refine g_iconst C 0 dX7_image_1 (by decide) ?_
  refine g_put C 7 52 gin7 tyX7 tyX7_ok nmX7 0 rfl rfl 0 (by decide) mw_5_85 rfl rfl (ty := .int) (by decide +kernel) rfl rfl (Nat.le_of_ble_eq_true rfl) [(a0, .inr (7, [.int 0, .ref a0_buffer, .int (q7_length o0), .int (q7_at o0), .int (q7_from o0), .int (q7_kind o0), .int (q7_number o0), .int (q7_wrong o0), .ref a0_now, .ref a0_made, .ref a0_history, .ref a0_saved, .int (q7_entries o0), .int (q7_isSaved o0), .ref a0_closed, .ref a0_faces, .ref a0_rankOf, .ref a0_placeOf, .int (q7_faceMany o0), .int (q7_isLaid o0), .ref a0_counted, .ref a0_steps, .ref a0_onto, .ref a0_goes, .int (q7_found o0), .int (q7_images o0), .ref a0_firstImage, .int (q7_gathered o0)])), (a0_now, .inl (zI Z, 12, .inl (q7_now o0))), (a0_saved, .inl (zI Z, 12, .inl (q7_saved o0))), (a0_onto, .inl (zI Z, 12, .inl (q7_onto o0))), (a0_goes, .inl (zI Z, 8, .inl (q7_goes o0))), (a0_firstImage, .inl (zI Z, 8, .inl (q7_firstImage o0)))] rfl dX7_image_2 ?_
  refine g_aload_n C dX7_image_5 rfl 0 rfl ?_
  refine g_aload_n C dX7_image_6 rfl 0 rfl ?_
  refine g_iload_n C dX7_image_7 rfl 1 rfl ?_
  obtain ⟨r1, hr2, h⟩ := bd_of h
  refine g_callVi C (kX7_isPoint l Z a0 a0_buffer a0_now a0_made a0_history a0_saved a0_closed a0_faces a0_rankOf a0_placeOf a0_counted a0_steps a0_onto a0_goes a0_firstImage (s7_thrown o0 0) p1 r1 hr2) 0 rfl (ci := 7) rfl rfl myX7_isPoint 220 mw_6_76 rfl [0, 1] [2, 3, 4, 5] [4, 5, 0, 1, 2, 3] (wr := [(a0_saved, .inl (zI Z, 12, .inl (q7_saved o0))), (a0_onto, .inl (zI Z, 12, .inl (q7_onto o0))), (a0_goes, .inl (zI Z, 8, .inl (q7_goes o0))), (a0_firstImage, .inl (zI Z, 8, .inl (q7_firstImage o0)))]) rfl rfl (by decide) (by decide) (by decide) [(a0, .inr (7, [.int 0, .ref a0_buffer, .int (q7_length o0), .int (q7_at o0), .int (q7_from o0), .int (q7_kind o0), .int (q7_number o0), .int (q7_wrong o0), .ref a0_now, .ref a0_made, .ref a0_history, .ref a0_saved, .int (q7_entries o0), .int (q7_isSaved o0), .ref a0_closed, .ref a0_faces, .ref a0_rankOf, .ref a0_placeOf, .int (q7_faceMany o0), .int (q7_isLaid o0), .ref a0_counted, .ref a0_steps, .ref a0_onto, .ref a0_goes, .int (q7_found o0), .int (q7_images o0), .ref a0_firstImage, .int (q7_gathered o0)])), (a0_now, .inl (zI Z, 12, .inl (q7_now o0))), (a0_saved, .inl (zI Z, 12, .inl (q7_saved o0))), (a0_onto, .inl (zI Z, 12, .inl (q7_onto o0))), (a0_goes, .inl (zI Z, 8, .inl (q7_goes o0))), (a0_firstImage, .inl (zI Z, 8, .inl (q7_firstImage o0)))] rfl (by decide) (Nat.le_of_ble_eq_true rfl) (by rw [hR]; exact Nat.le_of_ble_eq_true rfl) (by rw [hR]; exact Nat.le_of_ble_eq_true rfl) ⟨by rw [hR]; exact Nat.le_of_ble_eq_true rfl, by rw [hR]; exact Nat.le_of_ble_eq_true rfl⟩ rfl dX7_image_8 ?_
  refine g_iconst C 1 dX7_image_11 (by decide) ?_
  obtain ⟨r3, hr4, h⟩ := bd_of h
  refine g_callVi C (kX7_fails l Z a0 a0_buffer a0_now a0_made a0_history a0_saved a0_closed a0_faces a0_rankOf a0_placeOf a0_counted a0_steps a0_onto a0_goes a0_firstImage (s7_thrown o0 0) r1 1 r3 hr4) 0 rfl (ci := 7) rfl rfl myX7_fails 63 mw_5_181 rfl [0] [1, 2, 3, 4, 5] [5, 0, 1, 2, 3, 4] (wr := [(a0_now, .inl (zI Z, 12, .inl (q7_now o0))), (a0_saved, .inl (zI Z, 12, .inl (q7_saved o0))), (a0_onto, .inl (zI Z, 12, .inl (q7_onto o0))), (a0_goes, .inl (zI Z, 8, .inl (q7_goes o0))), (a0_firstImage, .inl (zI Z, 8, .inl (q7_firstImage o0)))]) rfl rfl (by decide) (by decide) (by decide) [(a0, .inr (7, [.int (q7_thrown r3.2), .ref a0_buffer, .int (q7_length o0), .int (q7_at o0), .int (q7_from o0), .int (q7_kind o0), .int (q7_number o0), .int (q7_wrong o0), .ref a0_now, .ref a0_made, .ref a0_history, .ref a0_saved, .int (q7_entries o0), .int (q7_isSaved o0), .ref a0_closed, .ref a0_faces, .ref a0_rankOf, .ref a0_placeOf, .int (q7_faceMany o0), .int (q7_isLaid o0), .ref a0_counted, .ref a0_steps, .ref a0_onto, .ref a0_goes, .int (q7_found o0), .int (q7_images o0), .ref a0_firstImage, .int (q7_gathered o0)])), (a0_now, .inl (zI Z, 12, .inl (q7_now o0))), (a0_saved, .inl (zI Z, 12, .inl (q7_saved o0))), (a0_onto, .inl (zI Z, 12, .inl (q7_onto o0))), (a0_goes, .inl (zI Z, 8, .inl (q7_goes o0))), (a0_firstImage, .inl (zI Z, 8, .inl (q7_firstImage o0)))] rfl (by decide) (Nat.le_of_ble_eq_true rfl) (by rw [hR]; exact Nat.le_of_ble_eq_true rfl) (by rw [hR]; exact Nat.le_of_ble_eq_true rfl) ⟨by rw [hR]; exact Nat.le_of_ble_eq_true rfl, by rw [hR]; exact Nat.le_of_ble_eq_true rfl⟩ rfl dX7_image_12 ?_
  refine g_if_ne C 30 dX7_image_15 (by decide) (fun c5 => ?_) (fun c5 => ?_)
  · replace h := it_f c5 h
    refine g_iconst C 0 dX7_image_30 (by decide) ?_
    obtain rfl := Option.some.inj h
    subst hQ
    exact g_iret C rfl hr hlk dX7_image_31 [0, 1, 2, 3, 4, 5] rfl (by decide)
  · replace h := it_t c5 h
    refine g_aload_n C dX7_image_18 rfl 0 rfl ?_
    refine g_aload_n C dX7_image_19 rfl 0 rfl ?_
    refine g_get C 7 193 gin7 0 rfl rfl 13 (by decide) mw_5_98 rfl rfl dX7_image_20 ?_
    refine g_iconst C 2 dX7_image_23 (by decide) ?_
    obtain ⟨r6, hr7, h⟩ := bd_of h
    refine g_callVi C (kX7_fails l Z a0 a0_buffer a0_now a0_made a0_history a0_saved a0_closed a0_faces a0_rankOf a0_placeOf a0_counted a0_steps a0_onto a0_goes a0_firstImage (s7_thrown o0 (q7_thrown r3.2)) (q7_isSaved o0) 2 r6 hr7) 0 rfl (ci := 7) rfl rfl myX7_fails 63 mw_5_181 rfl [0] [1, 2, 3, 4, 5] [5, 0, 1, 2, 3, 4] (wr := [(a0_now, .inl (zI Z, 12, .inl (q7_now o0))), (a0_saved, .inl (zI Z, 12, .inl (q7_saved o0))), (a0_onto, .inl (zI Z, 12, .inl (q7_onto o0))), (a0_goes, .inl (zI Z, 8, .inl (q7_goes o0))), (a0_firstImage, .inl (zI Z, 8, .inl (q7_firstImage o0)))]) rfl rfl (by decide) (by decide) (by decide) [(a0, .inr (7, [.int (q7_thrown r6.2), .ref a0_buffer, .int (q7_length o0), .int (q7_at o0), .int (q7_from o0), .int (q7_kind o0), .int (q7_number o0), .int (q7_wrong o0), .ref a0_now, .ref a0_made, .ref a0_history, .ref a0_saved, .int (q7_entries o0), .int (q7_isSaved o0), .ref a0_closed, .ref a0_faces, .ref a0_rankOf, .ref a0_placeOf, .int (q7_faceMany o0), .int (q7_isLaid o0), .ref a0_counted, .ref a0_steps, .ref a0_onto, .ref a0_goes, .int (q7_found o0), .int (q7_images o0), .ref a0_firstImage, .int (q7_gathered o0)])), (a0_now, .inl (zI Z, 12, .inl (q7_now o0))), (a0_saved, .inl (zI Z, 12, .inl (q7_saved o0))), (a0_onto, .inl (zI Z, 12, .inl (q7_onto o0))), (a0_goes, .inl (zI Z, 8, .inl (q7_goes o0))), (a0_firstImage, .inl (zI Z, 8, .inl (q7_firstImage o0)))] rfl (by decide) (Nat.le_of_ble_eq_true rfl) (by rw [hR]; exact Nat.le_of_ble_eq_true rfl) (by rw [hR]; exact Nat.le_of_ble_eq_true rfl) ⟨by rw [hR]; exact Nat.le_of_ble_eq_true rfl, by rw [hR]; exact Nat.le_of_ble_eq_true rfl⟩ rfl dX7_image_24 ?_
    refine g_if_eq C 32 dX7_image_27 (by decide) (fun c8 => ?_) (fun c8 => ?_)
    · replace h := it_t c8 h
      refine g_aload_n C dX7_image_32 rfl 0 rfl ?_
      refine g_aload_n C dX7_image_33 rfl 0 rfl ?_
      refine g_aload_n C dX7_image_34 rfl 0 rfl ?_
      refine g_get C 7 22 gin7 0 rfl rfl 11 (by decide) mw_5_96 rfl rfl dX7_image_35 ?_
      refine g_iconst C 0 dX7_image_38 (by decide) ?_
      obtain ⟨r9, hr10, h⟩ := bd_of h
      refine g_callVi C (kX7_isomorphisms l Z a0 a0_buffer a0_now a0_made a0_history a0_saved a0_closed a0_faces a0_rankOf a0_placeOf a0_counted a0_steps a0_onto a0_goes a0_firstImage a0_saved (s7_thrown o0 (q7_thrown r6.2)) (q7_saved o0) 0 r9 hr10) 0 rfl (ci := 7) rfl rfl myX7_isomorphisms 324 mw_7_109 rfl [0, 1, 3, 4, 5, 2] [] [0, 1, 5, 2, 3, 4] (wr := []) rfl rfl (by decide) (by decide) (by decide) [(a0, .inr (7, [.int (q7_thrown r6.2), .ref a0_buffer, .int (q7_length o0), .int (q7_at o0), .int (q7_from o0), .int (q7_kind o0), .int (q7_number o0), .int (q7_wrong o0), .ref a0_now, .ref a0_made, .ref a0_history, .ref a0_saved, .int (q7_entries o0), .int (q7_isSaved o0), .ref a0_closed, .ref a0_faces, .ref a0_rankOf, .ref a0_placeOf, .int (q7_faceMany o0), .int (q7_isLaid o0), .ref a0_counted, .ref a0_steps, .ref a0_onto, .ref a0_goes, .int (q7_found r9.2), .int (q7_images r9.2), .ref a0_firstImage, .int (q7_gathered r9.2)])), (a0_now, .inl (zI Z, 12, .inl (q7_now o0))), (a0_saved, .inl (zI Z, 12, .inl (q7_saved o0))), (a0_onto, .inl (zI Z, 12, .inl (q7_onto r9.2))), (a0_goes, .inl (zI Z, 8, .inl (q7_goes r9.2))), (a0_firstImage, .inl (zI Z, 8, .inl (q7_firstImage r9.2)))] rfl (by decide) (Nat.le_of_ble_eq_true rfl) (by rw [hR]; exact Nat.le_of_ble_eq_true rfl) (by rw [hR]; exact Nat.le_of_ble_eq_true rfl) ⟨by rw [hR]; exact Nat.le_of_ble_eq_true rfl, by rw [hR]; exact Nat.le_of_ble_eq_true rfl⟩ rfl dX7_image_39 ?_
      have hj50 : ∀ (x11 : Int32), fX7_image_J50 o0 p1 r6 r9 x11 = some res → Gw p l e R s m args below meth c 2 Z A Q 0 0 50 [(0, .ref a0), (1, .int p1)] [.int x11, .ref a0] [(a0, .inr (7, [.int (q7_thrown r6.2), .ref a0_buffer, .int (q7_length o0), .int (q7_at o0), .int (q7_from o0), .int (q7_kind o0), .int (q7_number o0), .int (q7_wrong o0), .ref a0_now, .ref a0_made, .ref a0_history, .ref a0_saved, .int (q7_entries o0), .int (q7_isSaved o0), .ref a0_closed, .ref a0_faces, .ref a0_rankOf, .ref a0_placeOf, .int (q7_faceMany o0), .int (q7_isLaid o0), .ref a0_counted, .ref a0_steps, .ref a0_onto, .ref a0_goes, .int (q7_found r9.2), .int (q7_images r9.2), .ref a0_firstImage, .int (q7_gathered r9.2)])), (a0_now, .inl (zI Z, 12, .inl (q7_now o0))), (a0_saved, .inl (zI Z, 12, .inl (q7_saved o0))), (a0_onto, .inl (zI Z, 12, .inl (q7_onto r9.2))), (a0_goes, .inl (zI Z, 8, .inl (q7_goes r9.2))), (a0_firstImage, .inl (zI Z, 8, .inl (q7_firstImage r9.2)))] := by
        intro x11 h
        unfold fX7_image_J50 at h
        refine g_iconst C 3 dX7_image_50 (by decide) ?_
        obtain ⟨r12, hr13, h⟩ := bd_of h
        refine g_callVi C (kX7_fails l Z a0 a0_buffer a0_now a0_made a0_history a0_saved a0_closed a0_faces a0_rankOf a0_placeOf a0_counted a0_steps a0_onto a0_goes a0_firstImage (s7_gathered (s7_firstImage (s7_images (s7_found (s7_goes (s7_onto (s7_thrown o0 (q7_thrown r6.2)) (q7_onto r9.2)) (q7_goes r9.2)) (q7_found r9.2)) (q7_images r9.2)) (q7_firstImage r9.2)) (q7_gathered r9.2)) x11 3 r12 hr13) 0 rfl (ci := 7) rfl rfl myX7_fails 63 mw_5_181 rfl [0] [1, 2, 3, 4, 5] [5, 0, 1, 2, 3, 4] (wr := [(a0_now, .inl (zI Z, 12, .inl (q7_now o0))), (a0_saved, .inl (zI Z, 12, .inl (q7_saved o0))), (a0_onto, .inl (zI Z, 12, .inl (q7_onto r9.2))), (a0_goes, .inl (zI Z, 8, .inl (q7_goes r9.2))), (a0_firstImage, .inl (zI Z, 8, .inl (q7_firstImage r9.2)))]) rfl rfl (by decide) (by decide) (by decide) [(a0, .inr (7, [.int (q7_thrown r12.2), .ref a0_buffer, .int (q7_length o0), .int (q7_at o0), .int (q7_from o0), .int (q7_kind o0), .int (q7_number o0), .int (q7_wrong o0), .ref a0_now, .ref a0_made, .ref a0_history, .ref a0_saved, .int (q7_entries o0), .int (q7_isSaved o0), .ref a0_closed, .ref a0_faces, .ref a0_rankOf, .ref a0_placeOf, .int (q7_faceMany o0), .int (q7_isLaid o0), .ref a0_counted, .ref a0_steps, .ref a0_onto, .ref a0_goes, .int (q7_found r9.2), .int (q7_images r9.2), .ref a0_firstImage, .int (q7_gathered r9.2)])), (a0_now, .inl (zI Z, 12, .inl (q7_now o0))), (a0_saved, .inl (zI Z, 12, .inl (q7_saved o0))), (a0_onto, .inl (zI Z, 12, .inl (q7_onto r9.2))), (a0_goes, .inl (zI Z, 8, .inl (q7_goes r9.2))), (a0_firstImage, .inl (zI Z, 8, .inl (q7_firstImage r9.2)))] rfl (by decide) (Nat.le_of_ble_eq_true rfl) (by rw [hR]; exact Nat.le_of_ble_eq_true rfl) (by rw [hR]; exact Nat.le_of_ble_eq_true rfl) ⟨by rw [hR]; exact Nat.le_of_ble_eq_true rfl, by rw [hR]; exact Nat.le_of_ble_eq_true rfl⟩ rfl dX7_image_51 ?_
        refine g_if_eq C 61 dX7_image_54 (by decide) (fun c14 => ?_) (fun c14 => ?_)
        · replace h := it_t c14 h
          refine g_aload_n C dX7_image_61 rfl 0 rfl ?_
          refine g_get C 7 49 gin7 0 rfl rfl 26 (by decide) mw_5_111 rfl rfl dX7_image_62 ?_
          refine g_iload_n C dX7_image_65 rfl 1 rfl ?_
          obtain ⟨hi15, h⟩ := ck_of h
          refine g_iald C 5 rfl hi15 dX7_image_66 ?_
          obtain rfl := Option.some.inj h
          subst hQ
          exact g_iret C rfl hr hlk dX7_image_67 [0, 1, 2, 3, 4, 5] rfl (by decide)
        · replace h := it_f c14 h
          refine g_iconst C 0 dX7_image_57 (by decide) ?_
          refine g_goto C 67 dX7_image_58 (by decide) ?_
          obtain rfl := Option.some.inj h
          subst hQ
          exact g_iret C rfl hr hlk dX7_image_67 [0, 1, 2, 3, 4, 5] rfl (by decide)
      refine g_if_le C 49 dX7_image_42 (by decide) (fun c16 => ?_) (fun c16 => ?_)
      · replace h := it_t c16 h
        refine g_iconst C 0 dX7_image_49 (by decide) ?_
        exact hj50 0 h
      · replace h := it_f c16 h
        refine g_iconst C 1 dX7_image_45 (by decide) ?_
        refine g_goto C 50 dX7_image_46 (by decide) ?_
        exact hj50 1 h
    · replace h := it_f c8 h
      refine g_iconst C 0 dX7_image_30 (by decide) ?_
      obtain rfl := Option.some.inj h
      subst hQ
      exact g_iret C rfl hr hlk dX7_image_31 [0, 1, 2, 3, 4, 5] rfl (by decide)

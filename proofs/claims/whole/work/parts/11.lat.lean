def fX3_top (o0 : OX3) : Option (Int32) :=
  ck (okI (q3_all o0) 256) (some ((q3_ranks o0) (ix (q3_all o0))))
theorem myX3_top : MYv yX3_top cX3_top 1 (some .int) 0 := ⟨mw_2_165, mw_2_166, mw_2_167, mw_1_5, ⟨by decide +kernel, by decide +kernel⟩, by decide +kernel⟩
set_option maxRecDepth 100000 in
set_option maxHeartbeats 4000000 in
theorem kX3_top (l : Launch) (Z : GZ) (a0 a0_closed a0_ranks a0_numbers a0_sets a0_rankSizes a0_tally : Nat) (o0 : OX3) (res : Int32) (h : fX3_top o0 = some res) : MI l Z yX3_top cX3_top 1 .int 0 0 [.ref a0] [(a0, .inr (3, [.ref a0_closed, .ref a0_ranks, .ref a0_numbers, .ref a0_sets, .ref a0_rankSizes, .int (q3_size o0), .ref a0_tally, .int (q3_points o0), .int (q3_all o0)])), (a0_ranks, .inl (zI Z, 256, .inl (q3_ranks o0)))] res [(a0, .inr (3, [.ref a0_closed, .ref a0_ranks, .ref a0_numbers, .ref a0_sets, .ref a0_rankSizes, .int (q3_size o0), .ref a0_tally, .int (q3_points o0), .int (q3_all o0)])), (a0_ranks, .inl (zI Z, 256, .inl (q3_ranks o0)))] := by
  refine MI_of (by decide +kernel) (Nat.le_of_ble_eq_true rfl) (fun {p e s m args below meth c} A R hR Q hQ C hr hlk => ?_)
  unfold fX3_top at h
  refine g_lv [0] [(0, .ref a0)] rfl ?_
  refine g_aload_n C dX3_top_0 rfl 0 rfl ?_
  refine g_get C 3 15 gin3 0 rfl rfl 1 (by decide) mw_1_110 rfl rfl dX3_top_1 ?_
  refine g_aload_n C dX3_top_4 rfl 0 rfl ?_
  refine g_get C 3 37 gin3 0 rfl rfl 8 (by decide) mw_1_122 rfl rfl dX3_top_5 ?_
  obtain ⟨hi1, h⟩ := ck_of h
  refine g_iald C 1 rfl hi1 dX3_top_8 ?_
  obtain rfl := Option.some.inj h
  subst hQ
  exact g_iret C rfl hr hlk dX3_top_9 [0, 1] rfl (by decide)
def fX3_isFace (o0 : OX3) (p1 : Int32) : Option (Int32) :=
  ck (okI p1 256) (if ((q3_closed o0) (ix p1)) = p1 then (some 1)
  else (some 0))
theorem myX3_isFace : MYv yX3_isFace cX3_isFace 2 (some .boolean) 1 := ⟨mw_1_209, mw_1_210, mw_1_211, mw_1_5, ⟨by decide +kernel, by decide +kernel⟩, by decide +kernel⟩
set_option maxRecDepth 100000 in
set_option maxHeartbeats 4000000 in
theorem kX3_isFace (l : Launch) (Z : GZ) (a0 a0_closed a0_ranks a0_numbers a0_sets a0_rankSizes a0_tally : Nat) (o0 : OX3) (p1 : Int32) (res : Int32) (h : fX3_isFace o0 p1 = some res) : MI l Z yX3_isFace cX3_isFace 2 .boolean 0 0 [.ref a0, .int p1] [(a0, .inr (3, [.ref a0_closed, .ref a0_ranks, .ref a0_numbers, .ref a0_sets, .ref a0_rankSizes, .int (q3_size o0), .ref a0_tally, .int (q3_points o0), .int (q3_all o0)])), (a0_closed, .inl (zI Z, 256, .inl (q3_closed o0)))] res [(a0, .inr (3, [.ref a0_closed, .ref a0_ranks, .ref a0_numbers, .ref a0_sets, .ref a0_rankSizes, .int (q3_size o0), .ref a0_tally, .int (q3_points o0), .int (q3_all o0)])), (a0_closed, .inl (zI Z, 256, .inl (q3_closed o0)))] := by
  refine MI_of (by decide +kernel) (Nat.le_of_ble_eq_true rfl) (fun {p e s m args below meth c} A R hR Q hQ C hr hlk => ?_)
  unfold fX3_isFace at h
  refine g_lv [0, 1] [(0, .ref a0), (1, .int p1)] rfl ?_
  refine g_aload_n C dX3_isFace_0 rfl 0 rfl ?_
  refine g_get C 3 9 gin3 0 rfl rfl 0 (by decide) mw_1_108 rfl rfl dX3_isFace_1 ?_
  refine g_iload_n C dX3_isFace_4 rfl 1 rfl ?_
  obtain ⟨hi1, h⟩ := ck_of h
  refine g_iald C 1 rfl hi1 dX3_isFace_5 ?_
  refine g_iload_n C dX3_isFace_6 rfl 1 rfl ?_
  refine g_icmp_ne C 14 dX3_isFace_7 (by decide) (fun c2 => ?_) (fun c2 => ?_)
  · replace h := it_f c2 h
    refine g_iconst C 0 dX3_isFace_14 (by decide) ?_
    obtain rfl := Option.some.inj h
    subst hQ
    exact g_zret C rfl (Or.inl rfl) hr hlk dX3_isFace_15 [0, 1] rfl (by decide)
  · replace h := it_t c2 h
    refine g_iconst C 1 dX3_isFace_10 (by decide) ?_
    refine g_goto C 15 dX3_isFace_11 (by decide) ?_
    obtain rfl := Option.some.inj h
    subst hQ
    exact g_zret C rfl (Or.inr rfl) hr hlk dX3_isFace_15 [0, 1] rfl (by decide)
def fX3_rankFaces_L12 (o0 : OX3) (v1 : Int32 × (Nat → Int32)) (v4 : Int32 × (Nat → Int32)) : Option ((Int32 × (Nat → Int32)) ⊕ ((Int32 × (Nat → Int32)) ⊕ (OX3))) :=
  if (q3_points o0) ≤ v4.1 then (ex (some (.inl ((v1.1 + 1), v4.2))))
  else ((fX3_isFace (s3_ranks o0 v4.2) v1.1).bind fun r7 =>
  (if r7 = 0 then (ex (some (.inl ((v1.1 + 1), v4.2))))
  else (ck (okI (v1.1 ||| (jshl 1 v4.1)) 256) (if ((q3_closed o0) (ix (v1.1 ||| (jshl 1 v4.1)))) = v1.1 then (some (.inl ((v4.1 + 1), v4.2)))
  else (ck (okI ((q3_closed o0) (ix (v1.1 ||| (jshl 1 v4.1)))) 256) (ck (okI v1.1 256) (ck (okI ((q3_closed o0) (ix (v1.1 ||| (jshl 1 v4.1)))) 256) (some (.inl ((v4.1 + 1), (upd v4.2 (ix ((q3_closed o0) (ix (v1.1 ||| (jshl 1 v4.1))))) (jmax (v4.2 (ix ((q3_closed o0) (ix (v1.1 ||| (jshl 1 v4.1)))))) ((v4.2 (ix v1.1)) + 1)))))))))))))
def fX3_rankFaces_L2 (o0 : OX3) (v1 : Int32 × (Nat → Int32)) : Option ((Int32 × (Nat → Int32)) ⊕ (OX3)) :=
  if (q3_all o0) < v1.1 then (ex (some (s3_ranks o0 v1.2)))
  else (lp (fX3_rankFaces_L12 o0 v1) lpN (0, v1.2))
def fX3_rankFaces (o0 : OX3) : Option (OX3) :=
  lp (fX3_rankFaces_L2 o0) lpN (0, (q3_ranks o0))
theorem myX3_rankFaces : MYv yX3_rankFaces cX3_rankFaces 4 none 0 := ⟨mw_1_206, ms_0, mw_1_207, mw_1_5, ⟨by decide +kernel, by decide +kernel⟩, by decide +kernel⟩
set_option maxRecDepth 100000 in
set_option maxHeartbeats 4000000 in
theorem kX3_rankFaces (l : Launch) (Z : GZ) (a0 a0_closed a0_ranks a0_numbers a0_sets a0_rankSizes a0_tally : Nat) (o0 : OX3) (res : OX3) (h : fX3_rankFaces o0 = some res) : MV l Z yX3_rankFaces cX3_rankFaces 4 1 21 [.ref a0] [(a0, .inr (3, [.ref a0_closed, .ref a0_ranks, .ref a0_numbers, .ref a0_sets, .ref a0_rankSizes, .int (q3_size o0), .ref a0_tally, .int (q3_points o0), .int (q3_all o0)])), (a0_closed, .inl (zI Z, 256, .inl (q3_closed o0))), (a0_ranks, .inl (zI Z, 256, .inl (q3_ranks o0)))] [(a0, .inr (3, [.ref a0_closed, .ref a0_ranks, .ref a0_numbers, .ref a0_sets, .ref a0_rankSizes, .int (q3_size o0), .ref a0_tally, .int (q3_points o0), .int (q3_all o0)])), (a0_closed, .inl (zI Z, 256, .inl (q3_closed o0))), (a0_ranks, .inl (zI Z, 256, .inl (q3_ranks res)))] := by
  refine MV_of (by decide +kernel) (Nat.le_of_ble_eq_true rfl) (fun {p e s m args below meth c} A R hR Q hQ C hr hlk => ?_)
  unfold fX3_rankFaces at h
  refine g_lv [0] [(0, .ref a0)] rfl ?_
  refine g_iconst C 0 dX3_rankFaces_0 (by decide) ?_
  refine g_istore_n C dX3_rankFaces_1 rfl (by decide) [(1, .int 0), (0, .ref a0)] rfl ?_
  refine g_lv [1, 0] [(0, .ref a0), (1, .int 0)] rfl ?_
  refine g_loop (lvf := fun v1 => [(0, .ref a0), (1, .int v1.1)]) (wsf := fun v1 => [(a0, .inr (3, [.ref a0_closed, .ref a0_ranks, .ref a0_numbers, .ref a0_sets, .ref a0_rankSizes, .int (q3_size o0), .ref a0_tally, .int (q3_points o0), .int (q3_all o0)])), (a0_closed, .inl (zI Z, 256, .inl (q3_closed o0))), (a0_ranks, .inl (zI Z, 256, .inl v1.2))]) h (fun v1 y1 h hk1 hx1 => ?_)
  refine g_eq (lv1 := [(0, .ref a0), (1, .int v1.1)]) (st1 := []) (ws1 := [(a0, .inr (3, [.ref a0_closed, .ref a0_ranks, .ref a0_numbers, .ref a0_sets, .ref a0_rankSizes, .int (q3_size o0), .ref a0_tally, .int (q3_points o0), .int (q3_all o0)])), (a0_closed, .inl (zI Z, 256, .inl (q3_closed o0))), (a0_ranks, .inl (zI Z, 256, .inl v1.2))]) rfl rfl rfl rfl ?_
  unfold fX3_rankFaces_L2 at h
  refine g_iload_n C dX3_rankFaces_2 rfl 1 rfl ?_
  refine g_aload_n C dX3_rankFaces_3 rfl 0 rfl ?_
  refine g_get C 3 37 gin3 0 rfl rfl 8 (by decide) mw_1_122 rfl rfl dX3_rankFaces_4 ?_
  refine g_icmp_gt C 79 dX3_rankFaces_7 (by decide) (fun c2 => ?_) (fun c2 => ?_)
  · replace h := it_t c2 h
    obtain ⟨r3, h, hy⟩ := ex_of h
    rw [hx1 r3 hy] at h
    obtain rfl := Option.some.inj h
    subst hQ
    exact g_vret C hr hlk dX3_rankFaces_79 [0, 1, 2] rfl (by decide)
  · replace h := it_f c2 h
    refine g_iconst C 0 dX3_rankFaces_10 (by decide) ?_
    refine g_istore_n C dX3_rankFaces_11 rfl (by decide) [(2, .int 0), (0, .ref a0), (1, .int v1.1)] rfl ?_
    refine g_lv [1, 2, 0] [(0, .ref a0), (1, .int v1.1), (2, .int 0)] rfl ?_
    refine g_loop (lvf := fun v4 => [(0, .ref a0), (1, .int v1.1), (2, .int v4.1)]) (wsf := fun v4 => [(a0, .inr (3, [.ref a0_closed, .ref a0_ranks, .ref a0_numbers, .ref a0_sets, .ref a0_rankSizes, .int (q3_size o0), .ref a0_tally, .int (q3_points o0), .int (q3_all o0)])), (a0_closed, .inl (zI Z, 256, .inl (q3_closed o0))), (a0_ranks, .inl (zI Z, 256, .inl v4.2))]) h (fun v4 y2 h hk2 hx2 => ?_)
    refine g_eq (lv1 := [(0, .ref a0), (1, .int v1.1), (2, .int v4.1)]) (st1 := []) (ws1 := [(a0, .inr (3, [.ref a0_closed, .ref a0_ranks, .ref a0_numbers, .ref a0_sets, .ref a0_rankSizes, .int (q3_size o0), .ref a0_tally, .int (q3_points o0), .int (q3_all o0)])), (a0_closed, .inl (zI Z, 256, .inl (q3_closed o0))), (a0_ranks, .inl (zI Z, 256, .inl v4.2))]) rfl rfl rfl rfl ?_
    unfold fX3_rankFaces_L12 at h
    refine g_iload_n C dX3_rankFaces_12 rfl 2 rfl ?_
    refine g_aload_n C dX3_rankFaces_13 rfl 0 rfl ?_
    refine g_get C 3 34 gin3 0 rfl rfl 7 (by decide) mw_1_121 rfl rfl dX3_rankFaces_14 ?_
    refine g_icmp_ge C 73 dX3_rankFaces_17 (by decide) (fun c5 => ?_) (fun c5 => ?_)
    · replace h := it_t c5 h
      obtain ⟨r6, h, hy⟩ := ex_of h
      rw [hx2 r6 hy] at h
      refine g_iinc C (v1.1 + 1) dX3_rankFaces_73 1 rfl rfl (by decide) [(1, .int (v1.1 + 1)), (0, .ref a0), (2, .int v4.1)] rfl ?_
      refine g_goto C 2 dX3_rankFaces_76 (by decide) ?_
      refine g_lv [1, 0] [(0, .ref a0), (1, .int (v1.1 + 1))] rfl ?_
      exact hk1 ((v1.1 + 1), v4.2) (Option.some.inj h).symm
    · replace h := it_f c5 h
      refine g_aload_n C dX3_rankFaces_20 rfl 0 rfl ?_
      refine g_iload_n C dX3_rankFaces_21 rfl 1 rfl ?_
      obtain ⟨r7, hr8, h⟩ := bd_of h
      refine g_callVi C (kX3_isFace l Z a0 a0_closed a0_ranks a0_numbers a0_sets a0_rankSizes a0_tally (s3_ranks o0 v4.2) v1.1 r7 hr8) 0 rfl (ci := 3) rfl rfl myX3_isFace 57 mw_1_208 rfl [0, 1] [2] [1, 2, 0] (wr := [(a0_ranks, .inl (zI Z, 256, .inl v4.2))]) rfl rfl (by decide) (by decide) (by decide) [(a0, .inr (3, [.ref a0_closed, .ref a0_ranks, .ref a0_numbers, .ref a0_sets, .ref a0_rankSizes, .int (q3_size o0), .ref a0_tally, .int (q3_points o0), .int (q3_all o0)])), (a0_closed, .inl (zI Z, 256, .inl (q3_closed o0))), (a0_ranks, .inl (zI Z, 256, .inl v4.2))] rfl (by decide) (Nat.le_of_ble_eq_true rfl) (by rw [hR]; exact Nat.le_of_ble_eq_true rfl) (by rw [hR]; exact Nat.le_of_ble_eq_true rfl) ⟨by rw [hR]; exact Nat.le_of_ble_eq_true rfl, by rw [hR]; exact Nat.le_of_ble_eq_true rfl⟩ rfl dX3_rankFaces_22 ?_
      refine g_if_eq C 73 dX3_rankFaces_25 (by decide) (fun c9 => ?_) (fun c9 => ?_)
      · replace h := it_t c9 h
        obtain ⟨r10, h, hy⟩ := ex_of h
        rw [hx2 r10 hy] at h
        refine g_iinc C (v1.1 + 1) dX3_rankFaces_73 1 rfl rfl (by decide) [(1, .int (v1.1 + 1)), (0, .ref a0), (2, .int v4.1)] rfl ?_
        refine g_goto C 2 dX3_rankFaces_76 (by decide) ?_
        refine g_lv [1, 0] [(0, .ref a0), (1, .int (v1.1 + 1))] rfl ?_
        exact hk1 ((v1.1 + 1), v4.2) (Option.some.inj h).symm
      · replace h := it_f c9 h
        refine g_aload_n C dX3_rankFaces_28 rfl 0 rfl ?_
        refine g_get C 3 9 gin3 0 rfl rfl 0 (by decide) mw_1_108 rfl rfl dX3_rankFaces_29 ?_
        refine g_iload_n C dX3_rankFaces_32 rfl 1 rfl ?_
        refine g_iconst C 1 dX3_rankFaces_33 (by decide) ?_
        refine g_iload_n C dX3_rankFaces_34 rfl 2 rfl ?_
        refine g_ishl C dX3_rankFaces_35 ?_
        refine g_ior C dX3_rankFaces_36 ?_
        obtain ⟨hi11, h⟩ := ck_of h
        refine g_iald C 1 rfl hi11 dX3_rankFaces_37 ?_
        refine g_istore_n C dX3_rankFaces_38 rfl (by decide) [(3, .int ((q3_closed o0) (ix (v1.1 ||| (jshl 1 v4.1))))), (0, .ref a0), (1, .int v1.1), (2, .int v4.1)] rfl ?_
        refine g_iload_n C dX3_rankFaces_39 rfl 0 rfl ?_
        refine g_iload_n C dX3_rankFaces_40 rfl 2 rfl ?_
        refine g_icmp_eq C 67 dX3_rankFaces_41 (by decide) (fun c12 => ?_) (fun c12 => ?_)
        · replace h := it_t c12 h
          refine g_iinc C (v4.1 + 1) dX3_rankFaces_67 3 rfl rfl (by decide) [(2, .int (v4.1 + 1)), (3, .int ((q3_closed o0) (ix (v1.1 ||| (jshl 1 v4.1))))), (0, .ref a0), (1, .int v1.1)] rfl ?_
          refine g_goto C 12 dX3_rankFaces_70 (by decide) ?_
          refine g_lv [2, 3, 0] [(0, .ref a0), (1, .int v1.1), (2, .int (v4.1 + 1))] rfl ?_
          exact hk2 ((v4.1 + 1), v4.2) (Option.some.inj h).symm
        · replace h := it_f c12 h
          refine g_aload_n C dX3_rankFaces_44 rfl 1 rfl ?_
          refine g_get C 3 15 gin3 0 rfl rfl 1 (by decide) mw_1_110 rfl rfl dX3_rankFaces_45 ?_
          refine g_iload_n C dX3_rankFaces_48 rfl 0 rfl ?_
          refine g_aload_n C dX3_rankFaces_49 rfl 1 rfl ?_
          refine g_get C 3 15 gin3 0 rfl rfl 1 (by decide) mw_1_110 rfl rfl dX3_rankFaces_50 ?_
          refine g_iload_n C dX3_rankFaces_53 rfl 0 rfl ?_
          obtain ⟨hi13, h⟩ := ck_of h
          refine g_iald C 2 rfl hi13 dX3_rankFaces_54 ?_
          refine g_aload_n C dX3_rankFaces_55 rfl 1 rfl ?_
          refine g_get C 3 15 gin3 0 rfl rfl 1 (by decide) mw_1_110 rfl rfl dX3_rankFaces_56 ?_
          refine g_iload_n C dX3_rankFaces_59 rfl 2 rfl ?_
          obtain ⟨hi14, h⟩ := ck_of h
          refine g_iald C 2 rfl hi14 dX3_rankFaces_60 ?_
          refine g_iconst C 1 dX3_rankFaces_61 (by decide) ?_
          refine g_iadd C dX3_rankFaces_62 ?_
          refine g_mmax C 61 mw_1_212 mw_1_213 mw_1_8 mw_1_214 (by rw [hR]; exact Nat.le_of_ble_eq_true rfl) (by rw [hR]; exact Nat.le_of_ble_eq_true rfl) ⟨by rw [hR]; exact Nat.le_of_ble_eq_true rfl, by rw [hR]; exact Nat.le_of_ble_eq_true rfl⟩ dX3_rankFaces_63 ?_
          obtain ⟨hi15, h⟩ := ck_of h
          refine g_iast C 2 rfl hi15 [(a0, .inr (3, [.ref a0_closed, .ref a0_ranks, .ref a0_numbers, .ref a0_sets, .ref a0_rankSizes, .int (q3_size o0), .ref a0_tally, .int (q3_points o0), .int (q3_all o0)])), (a0_closed, .inl (zI Z, 256, .inl (q3_closed o0))), (a0_ranks, .inl (zI Z, 256, .inl (upd v4.2 (ix ((q3_closed o0) (ix (v1.1 ||| (jshl 1 v4.1))))) (jmax (v4.2 (ix ((q3_closed o0) (ix (v1.1 ||| (jshl 1 v4.1)))))) ((v4.2 (ix v1.1)) + 1)))))] rfl dX3_rankFaces_66 ?_
          refine g_iinc C (v4.1 + 1) dX3_rankFaces_67 3 rfl rfl (by decide) [(2, .int (v4.1 + 1)), (3, .int ((q3_closed o0) (ix (v1.1 ||| (jshl 1 v4.1))))), (0, .ref a0), (1, .int v1.1)] rfl ?_
          refine g_goto C 12 dX3_rankFaces_70 (by decide) ?_
          refine g_lv [2, 3, 0] [(0, .ref a0), (1, .int v1.1), (2, .int (v4.1 + 1))] rfl ?_
          exact hk2 ((v4.1 + 1), (upd v4.2 (ix ((q3_closed o0) (ix (v1.1 ||| (jshl 1 v4.1))))) (jmax (v4.2 (ix ((q3_closed o0) (ix (v1.1 ||| (jshl 1 v4.1)))))) ((v4.2 (ix v1.1)) + 1)))) (Option.some.inj h).symm
def fX3_numberFaces_L20 (o0 : OX3) (v1 : Int32 × Int32 × (Nat → Int32) × (Nat → Int32) × (Nat → Int32)) (v4 : Int32 × Int32 × (Nat → Int32) × (Nat → Int32)) : Option ((Int32 × Int32 × (Nat → Int32) × (Nat → Int32)) ⊕ ((Int32 × Int32 × (Nat → Int32) × (Nat → Int32) × (Nat → Int32)) ⊕ (OX3))) :=
  if (q3_all o0) < v4.1 then (ex (ck (okI v1.1 9) (some (.inl ((v1.1 + 1), v4.2.1, v4.2.2.1, v4.2.2.2, (upd v1.2.2.2.2 (ix v1.1) (v4.2.1 - v1.2.1)))))))
  else ((fX3_isFace (s3_size (s3_rankSizes (s3_sets (s3_numbers o0 v4.2.2.1) v4.2.2.2) v1.2.2.2.2) v4.2.1) v4.1).bind fun r8 =>
  (if r8 = 0 then (some (.inl ((v4.1 + 1), v4.2.1, v4.2.2.1, v4.2.2.2)))
  else (ck (okI v4.1 256) (if ((q3_ranks o0) (ix v4.1)) = v1.1 then (ck (okI v4.2.1 256) (ck (okI v4.1 256) (some (.inl ((v4.1 + 1), (v4.2.1 + 1), (upd v4.2.2.1 (ix v4.1) v4.2.1), (upd v4.2.2.2 (ix v4.2.1) v4.1))))))
  else (some (.inl ((v4.1 + 1), v4.2.1, v4.2.2.1, v4.2.2.2)))))))
def fX3_numberFaces_L7 (o0 : OX3) (v1 : Int32 × Int32 × (Nat → Int32) × (Nat → Int32) × (Nat → Int32)) : Option ((Int32 × Int32 × (Nat → Int32) × (Nat → Int32) × (Nat → Int32)) ⊕ (OX3)) :=
  if 8 < v1.1 then (ex (some (s3_size (s3_rankSizes (s3_sets (s3_numbers o0 v1.2.2.1) v1.2.2.2.1) v1.2.2.2.2) v1.2.1)))
  else (lp (fX3_numberFaces_L20 o0 v1) lpN (0, v1.2.1, v1.2.2.1, v1.2.2.2.1))
def fX3_numberFaces (o0 : OX3) : Option (OX3) :=
  lp (fX3_numberFaces_L7 o0) lpN (0, 0, (q3_numbers o0), (q3_sets o0), (q3_rankSizes o0))
theorem myX3_numberFaces : MYv yX3_numberFaces cX3_numberFaces 4 none 0 := ⟨mw_1_217, ms_1, mw_1_218, mw_1_5, ⟨by decide +kernel, by decide +kernel⟩, by decide +kernel⟩
set_option maxRecDepth 100000 in
set_option maxHeartbeats 4000000 in
theorem kX3_numberFaces (l : Launch) (Z : GZ) (a0 a0_closed a0_ranks a0_numbers a0_sets a0_rankSizes a0_tally : Nat) (o0 : OX3) (res : OX3) (h : fX3_numberFaces o0 = some res) : MV l Z yX3_numberFaces cX3_numberFaces 4 1 21 [.ref a0] [(a0, .inr (3, [.ref a0_closed, .ref a0_ranks, .ref a0_numbers, .ref a0_sets, .ref a0_rankSizes, .int (q3_size o0), .ref a0_tally, .int (q3_points o0), .int (q3_all o0)])), (a0_closed, .inl (zI Z, 256, .inl (q3_closed o0))), (a0_ranks, .inl (zI Z, 256, .inl (q3_ranks o0))), (a0_numbers, .inl (zI Z, 256, .inl (q3_numbers o0))), (a0_sets, .inl (zI Z, 256, .inl (q3_sets o0))), (a0_rankSizes, .inl (zI Z, 9, .inl (q3_rankSizes o0)))] [(a0, .inr (3, [.ref a0_closed, .ref a0_ranks, .ref a0_numbers, .ref a0_sets, .ref a0_rankSizes, .int (q3_size res), .ref a0_tally, .int (q3_points o0), .int (q3_all o0)])), (a0_closed, .inl (zI Z, 256, .inl (q3_closed o0))), (a0_ranks, .inl (zI Z, 256, .inl (q3_ranks o0))), (a0_numbers, .inl (zI Z, 256, .inl (q3_numbers res))), (a0_sets, .inl (zI Z, 256, .inl (q3_sets res))), (a0_rankSizes, .inl (zI Z, 9, .inl (q3_rankSizes res)))] := by
  refine MV_of (by decide +kernel) (Nat.le_of_ble_eq_true rfl) (fun {p e s m args below meth c} A R hR Q hQ C hr hlk => ?_)
  unfold fX3_numberFaces at h
  refine g_lv [0] [(0, .ref a0)] rfl ?_
  refine g_aload_n C dX3_numberFaces_0 rfl 0 rfl ?_
  refine g_iconst C 0 dX3_numberFaces_1 (by decide) ?_
  refine g_put C 3 27 gin3 tyX3 tyX3_ok nmX3 0 rfl rfl 5 (by decide) mw_1_118 rfl rfl (ty := .int) (by decide +kernel) rfl rfl (Nat.le_of_ble_eq_true rfl) [(a0, .inr (3, [.ref a0_closed, .ref a0_ranks, .ref a0_numbers, .ref a0_sets, .ref a0_rankSizes, .int 0, .ref a0_tally, .int (q3_points o0), .int (q3_all o0)])), (a0_closed, .inl (zI Z, 256, .inl (q3_closed o0))), (a0_ranks, .inl (zI Z, 256, .inl (q3_ranks o0))), (a0_numbers, .inl (zI Z, 256, .inl (q3_numbers o0))), (a0_sets, .inl (zI Z, 256, .inl (q3_sets o0))), (a0_rankSizes, .inl (zI Z, 9, .inl (q3_rankSizes o0)))] rfl dX3_numberFaces_2 ?_
  refine g_iconst C 0 dX3_numberFaces_5 (by decide) ?_
  refine g_istore_n C dX3_numberFaces_6 rfl (by decide) [(1, .int 0), (0, .ref a0)] rfl ?_
  refine g_lv [1, 0] [(0, .ref a0), (1, .int 0)] rfl ?_
  refine g_loop (lvf := fun v1 => [(0, .ref a0), (1, .int v1.1)]) (wsf := fun v1 => [(a0, .inr (3, [.ref a0_closed, .ref a0_ranks, .ref a0_numbers, .ref a0_sets, .ref a0_rankSizes, .int v1.2.1, .ref a0_tally, .int (q3_points o0), .int (q3_all o0)])), (a0_closed, .inl (zI Z, 256, .inl (q3_closed o0))), (a0_ranks, .inl (zI Z, 256, .inl (q3_ranks o0))), (a0_numbers, .inl (zI Z, 256, .inl v1.2.2.1)), (a0_sets, .inl (zI Z, 256, .inl v1.2.2.2.1)), (a0_rankSizes, .inl (zI Z, 9, .inl v1.2.2.2.2))]) h (fun v1 y1 h hk1 hx1 => ?_)
  refine g_eq (lv1 := [(0, .ref a0), (1, .int v1.1)]) (st1 := []) (ws1 := [(a0, .inr (3, [.ref a0_closed, .ref a0_ranks, .ref a0_numbers, .ref a0_sets, .ref a0_rankSizes, .int v1.2.1, .ref a0_tally, .int (q3_points o0), .int (q3_all o0)])), (a0_closed, .inl (zI Z, 256, .inl (q3_closed o0))), (a0_ranks, .inl (zI Z, 256, .inl (q3_ranks o0))), (a0_numbers, .inl (zI Z, 256, .inl v1.2.2.1)), (a0_sets, .inl (zI Z, 256, .inl v1.2.2.2.1)), (a0_rankSizes, .inl (zI Z, 9, .inl v1.2.2.2.2))]) rfl rfl rfl rfl ?_
  unfold fX3_numberFaces_L7 at h
  refine g_iload_n C dX3_numberFaces_7 rfl 1 rfl ?_
  refine g_bipush C 8 dX3_numberFaces_8 (by decide) ?_
  refine g_icmp_gt C 100 dX3_numberFaces_10 (by decide) (fun c2 => ?_) (fun c2 => ?_)
  · replace h := it_t c2 h
    obtain ⟨r3, h, hy⟩ := ex_of h
    rw [hx1 r3 hy] at h
    obtain rfl := Option.some.inj h
    subst hQ
    exact g_vret C hr hlk dX3_numberFaces_100 [0, 1, 2, 3, 4, 5] rfl (by decide)
  · replace h := it_f c2 h
    refine g_aload_n C dX3_numberFaces_13 rfl 0 rfl ?_
    refine g_get C 3 27 gin3 0 rfl rfl 5 (by decide) mw_1_118 rfl rfl dX3_numberFaces_14 ?_
    refine g_istore_n C dX3_numberFaces_17 rfl (by decide) [(2, .int v1.2.1), (0, .ref a0), (1, .int v1.1)] rfl ?_
    refine g_iconst C 0 dX3_numberFaces_18 (by decide) ?_
    refine g_istore_n C dX3_numberFaces_19 rfl (by decide) [(3, .int 0), (2, .int v1.2.1), (0, .ref a0), (1, .int v1.1)] rfl ?_
    refine g_lv [2, 3, 1, 0] [(0, .ref a0), (1, .int v1.1), (2, .int v1.2.1), (3, .int 0)] rfl ?_
    refine g_loop (lvf := fun v4 => [(0, .ref a0), (1, .int v1.1), (2, .int v1.2.1), (3, .int v4.1)]) (wsf := fun v4 => [(a0, .inr (3, [.ref a0_closed, .ref a0_ranks, .ref a0_numbers, .ref a0_sets, .ref a0_rankSizes, .int v4.2.1, .ref a0_tally, .int (q3_points o0), .int (q3_all o0)])), (a0_closed, .inl (zI Z, 256, .inl (q3_closed o0))), (a0_ranks, .inl (zI Z, 256, .inl (q3_ranks o0))), (a0_numbers, .inl (zI Z, 256, .inl v4.2.2.1)), (a0_sets, .inl (zI Z, 256, .inl v4.2.2.2)), (a0_rankSizes, .inl (zI Z, 9, .inl v1.2.2.2.2))]) h (fun v4 y2 h hk2 hx2 => ?_)
    refine g_eq (lv1 := [(0, .ref a0), (1, .int v1.1), (2, .int v1.2.1), (3, .int v4.1)]) (st1 := []) (ws1 := [(a0, .inr (3, [.ref a0_closed, .ref a0_ranks, .ref a0_numbers, .ref a0_sets, .ref a0_rankSizes, .int v4.2.1, .ref a0_tally, .int (q3_points o0), .int (q3_all o0)])), (a0_closed, .inl (zI Z, 256, .inl (q3_closed o0))), (a0_ranks, .inl (zI Z, 256, .inl (q3_ranks o0))), (a0_numbers, .inl (zI Z, 256, .inl v4.2.2.1)), (a0_sets, .inl (zI Z, 256, .inl v4.2.2.2)), (a0_rankSizes, .inl (zI Z, 9, .inl v1.2.2.2.2))]) rfl rfl rfl rfl ?_
    unfold fX3_numberFaces_L20 at h
    refine g_iload_n C dX3_numberFaces_20 rfl 3 rfl ?_
    refine g_aload_n C dX3_numberFaces_21 rfl 0 rfl ?_
    refine g_get C 3 37 gin3 0 rfl rfl 8 (by decide) mw_1_122 rfl rfl dX3_numberFaces_22 ?_
    refine g_icmp_gt C 82 dX3_numberFaces_25 (by decide) (fun c5 => ?_) (fun c5 => ?_)
    · replace h := it_t c5 h
      obtain ⟨r6, h, hy⟩ := ex_of h
      rw [hx2 r6 hy] at h
      refine g_aload_n C dX3_numberFaces_82 rfl 0 rfl ?_
      refine g_get C 3 24 gin3 0 rfl rfl 4 (by decide) mw_1_116 rfl rfl dX3_numberFaces_83 ?_
      refine g_iload_n C dX3_numberFaces_86 rfl 1 rfl ?_
      refine g_aload_n C dX3_numberFaces_87 rfl 0 rfl ?_
      refine g_get C 3 27 gin3 0 rfl rfl 5 (by decide) mw_1_118 rfl rfl dX3_numberFaces_88 ?_
      refine g_iload_n C dX3_numberFaces_91 rfl 2 rfl ?_
      refine g_isub C dX3_numberFaces_92 ?_
      obtain ⟨hi7, h⟩ := ck_of h
      refine g_iast C 5 rfl hi7 [(a0, .inr (3, [.ref a0_closed, .ref a0_ranks, .ref a0_numbers, .ref a0_sets, .ref a0_rankSizes, .int v4.2.1, .ref a0_tally, .int (q3_points o0), .int (q3_all o0)])), (a0_closed, .inl (zI Z, 256, .inl (q3_closed o0))), (a0_ranks, .inl (zI Z, 256, .inl (q3_ranks o0))), (a0_numbers, .inl (zI Z, 256, .inl v4.2.2.1)), (a0_sets, .inl (zI Z, 256, .inl v4.2.2.2)), (a0_rankSizes, .inl (zI Z, 9, .inl (upd v1.2.2.2.2 (ix v1.1) (v4.2.1 - v1.2.1))))] rfl dX3_numberFaces_93 ?_
      refine g_iinc C (v1.1 + 1) dX3_numberFaces_94 1 rfl rfl (by decide) [(1, .int (v1.1 + 1)), (0, .ref a0), (2, .int v1.2.1), (3, .int v4.1)] rfl ?_
      refine g_goto C 7 dX3_numberFaces_97 (by decide) ?_
      refine g_lv [1, 0] [(0, .ref a0), (1, .int (v1.1 + 1))] rfl ?_
      exact hk1 ((v1.1 + 1), v4.2.1, v4.2.2.1, v4.2.2.2, (upd v1.2.2.2.2 (ix v1.1) (v4.2.1 - v1.2.1))) (Option.some.inj h).symm
    · replace h := it_f c5 h
      refine g_aload_n C dX3_numberFaces_28 rfl 0 rfl ?_
      refine g_iload_n C dX3_numberFaces_29 rfl 3 rfl ?_
      obtain ⟨r8, hr9, h⟩ := bd_of h
      refine g_callVi C (kX3_isFace l Z a0 a0_closed a0_ranks a0_numbers a0_sets a0_rankSizes a0_tally (s3_size (s3_rankSizes (s3_sets (s3_numbers o0 v4.2.2.1) v4.2.2.2) v1.2.2.2.2) v4.2.1) v4.1 r8 hr9) 0 rfl (ci := 3) rfl rfl myX3_isFace 57 mw_1_208 rfl [0, 1] [2, 3, 4, 5] [4, 5, 0, 1, 2, 3] (wr := [(a0_ranks, .inl (zI Z, 256, .inl (q3_ranks o0))), (a0_numbers, .inl (zI Z, 256, .inl v4.2.2.1)), (a0_sets, .inl (zI Z, 256, .inl v4.2.2.2)), (a0_rankSizes, .inl (zI Z, 9, .inl v1.2.2.2.2))]) rfl rfl (by decide) (by decide) (by decide) [(a0, .inr (3, [.ref a0_closed, .ref a0_ranks, .ref a0_numbers, .ref a0_sets, .ref a0_rankSizes, .int v4.2.1, .ref a0_tally, .int (q3_points o0), .int (q3_all o0)])), (a0_closed, .inl (zI Z, 256, .inl (q3_closed o0))), (a0_ranks, .inl (zI Z, 256, .inl (q3_ranks o0))), (a0_numbers, .inl (zI Z, 256, .inl v4.2.2.1)), (a0_sets, .inl (zI Z, 256, .inl v4.2.2.2)), (a0_rankSizes, .inl (zI Z, 9, .inl v1.2.2.2.2))] rfl (by decide) (Nat.le_of_ble_eq_true rfl) (by rw [hR]; exact Nat.le_of_ble_eq_true rfl) (by rw [hR]; exact Nat.le_of_ble_eq_true rfl) ⟨by rw [hR]; exact Nat.le_of_ble_eq_true rfl, by rw [hR]; exact Nat.le_of_ble_eq_true rfl⟩ rfl dX3_numberFaces_30 ?_
      refine g_if_eq C 76 dX3_numberFaces_33 (by decide) (fun c10 => ?_) (fun c10 => ?_)
      · replace h := it_t c10 h
        refine g_iinc C (v4.1 + 1) dX3_numberFaces_76 3 rfl rfl (by decide) [(3, .int (v4.1 + 1)), (0, .ref a0), (1, .int v1.1), (2, .int v1.2.1)] rfl ?_
        refine g_goto C 20 dX3_numberFaces_79 (by decide) ?_
        refine g_lv [1, 2, 3, 0] [(0, .ref a0), (1, .int v1.1), (2, .int v1.2.1), (3, .int (v4.1 + 1))] rfl ?_
        exact hk2 ((v4.1 + 1), v4.2.1, v4.2.2.1, v4.2.2.2) (Option.some.inj h).symm
      · replace h := it_f c10 h
        refine g_aload_n C dX3_numberFaces_36 rfl 0 rfl ?_
        refine g_get C 3 15 gin3 0 rfl rfl 1 (by decide) mw_1_110 rfl rfl dX3_numberFaces_37 ?_
        refine g_iload_n C dX3_numberFaces_40 rfl 3 rfl ?_
        obtain ⟨hi11, h⟩ := ck_of h
        refine g_iald C 2 rfl hi11 dX3_numberFaces_41 ?_
        refine g_iload_n C dX3_numberFaces_42 rfl 1 rfl ?_
        refine g_icmp_ne C 76 dX3_numberFaces_43 (by decide) (fun c12 => ?_) (fun c12 => ?_)
        · replace h := it_f c12 h
          refine g_iinc C (v4.1 + 1) dX3_numberFaces_76 3 rfl rfl (by decide) [(3, .int (v4.1 + 1)), (0, .ref a0), (1, .int v1.1), (2, .int v1.2.1)] rfl ?_
          refine g_goto C 20 dX3_numberFaces_79 (by decide) ?_
          refine g_lv [1, 2, 3, 0] [(0, .ref a0), (1, .int v1.1), (2, .int v1.2.1), (3, .int (v4.1 + 1))] rfl ?_
          exact hk2 ((v4.1 + 1), v4.2.1, v4.2.2.1, v4.2.2.2) (Option.some.inj h).symm
        · replace h := it_t c12 h
          refine g_aload_n C dX3_numberFaces_46 rfl 0 rfl ?_
          refine g_get C 3 21 gin3 0 rfl rfl 3 (by decide) mw_1_114 rfl rfl dX3_numberFaces_47 ?_
          refine g_aload_n C dX3_numberFaces_50 rfl 0 rfl ?_
          refine g_get C 3 27 gin3 0 rfl rfl 5 (by decide) mw_1_118 rfl rfl dX3_numberFaces_51 ?_
          refine g_iload_n C dX3_numberFaces_54 rfl 3 rfl ?_
          obtain ⟨hi13, h⟩ := ck_of h
          refine g_iast C 4 rfl hi13 [(a0, .inr (3, [.ref a0_closed, .ref a0_ranks, .ref a0_numbers, .ref a0_sets, .ref a0_rankSizes, .int v4.2.1, .ref a0_tally, .int (q3_points o0), .int (q3_all o0)])), (a0_closed, .inl (zI Z, 256, .inl (q3_closed o0))), (a0_ranks, .inl (zI Z, 256, .inl (q3_ranks o0))), (a0_numbers, .inl (zI Z, 256, .inl v4.2.2.1)), (a0_sets, .inl (zI Z, 256, .inl (upd v4.2.2.2 (ix v4.2.1) v4.1))), (a0_rankSizes, .inl (zI Z, 9, .inl v1.2.2.2.2))] rfl dX3_numberFaces_55 ?_
          refine g_aload_n C dX3_numberFaces_56 rfl 0 rfl ?_
          refine g_get C 3 18 gin3 0 rfl rfl 2 (by decide) mw_1_112 rfl rfl dX3_numberFaces_57 ?_
          refine g_iload_n C dX3_numberFaces_60 rfl 3 rfl ?_
          refine g_aload_n C dX3_numberFaces_61 rfl 0 rfl ?_
          refine g_get C 3 27 gin3 0 rfl rfl 5 (by decide) mw_1_118 rfl rfl dX3_numberFaces_62 ?_
          obtain ⟨hi14, h⟩ := ck_of h
          refine g_iast C 3 rfl hi14 [(a0, .inr (3, [.ref a0_closed, .ref a0_ranks, .ref a0_numbers, .ref a0_sets, .ref a0_rankSizes, .int v4.2.1, .ref a0_tally, .int (q3_points o0), .int (q3_all o0)])), (a0_closed, .inl (zI Z, 256, .inl (q3_closed o0))), (a0_ranks, .inl (zI Z, 256, .inl (q3_ranks o0))), (a0_numbers, .inl (zI Z, 256, .inl (upd v4.2.2.1 (ix v4.1) v4.2.1))), (a0_sets, .inl (zI Z, 256, .inl (upd v4.2.2.2 (ix v4.2.1) v4.1))), (a0_rankSizes, .inl (zI Z, 9, .inl v1.2.2.2.2))] rfl dX3_numberFaces_65 ?_
          refine g_aload_n C dX3_numberFaces_66 rfl 0 rfl ?_
          refine g_dup C dX3_numberFaces_67 rfl ?_
          refine g_get C 3 27 gin3 0 rfl rfl 5 (by decide) mw_1_118 rfl rfl dX3_numberFaces_68 ?_
          refine g_iconst C 1 dX3_numberFaces_71 (by decide) ?_
          refine g_iadd C dX3_numberFaces_72 ?_
          refine g_put C 3 27 gin3 tyX3 tyX3_ok nmX3 0 rfl rfl 5 (by decide) mw_1_118 rfl rfl (ty := .int) (by decide +kernel) rfl rfl (Nat.le_of_ble_eq_true rfl) [(a0, .inr (3, [.ref a0_closed, .ref a0_ranks, .ref a0_numbers, .ref a0_sets, .ref a0_rankSizes, .int (v4.2.1 + 1), .ref a0_tally, .int (q3_points o0), .int (q3_all o0)])), (a0_closed, .inl (zI Z, 256, .inl (q3_closed o0))), (a0_ranks, .inl (zI Z, 256, .inl (q3_ranks o0))), (a0_numbers, .inl (zI Z, 256, .inl (upd v4.2.2.1 (ix v4.1) v4.2.1))), (a0_sets, .inl (zI Z, 256, .inl (upd v4.2.2.2 (ix v4.2.1) v4.1))), (a0_rankSizes, .inl (zI Z, 9, .inl v1.2.2.2.2))] rfl dX3_numberFaces_73 ?_
          refine g_iinc C (v4.1 + 1) dX3_numberFaces_76 3 rfl rfl (by decide) [(3, .int (v4.1 + 1)), (0, .ref a0), (1, .int v1.1), (2, .int v1.2.1)] rfl ?_
          refine g_goto C 20 dX3_numberFaces_79 (by decide) ?_
          refine g_lv [1, 2, 3, 0] [(0, .ref a0), (1, .int v1.1), (2, .int v1.2.1), (3, .int (v4.1 + 1))] rfl ?_
          exact hk2 ((v4.1 + 1), (v4.2.1 + 1), (upd v4.2.2.1 (ix v4.1) v4.2.1), (upd v4.2.2.2 (ix v4.2.1) v4.1)) (Option.some.inj h).symm
def fX3_build_L18 (o0 : OX3) (o1 : OX2) (r1 : Int32) (v3 : Int32 × (Nat → Int32) × (Nat → Int32) × (Nat → Int32)) : Option ((Int32 × (Nat → Int32) × (Nat → Int32) × (Nat → Int32)) ⊕ (OX3)) :=
  if r1 < v3.1 then (ex ((fX3_rankFaces (s3_all (s3_points (s3_numbers (s3_ranks (s3_closed o0 v3.2.1) v3.2.2.1) v3.2.2.2) (q2_points o1)) r1)).bind fun r6 =>
  ((fX3_numberFaces (s3_all (s3_points (s3_numbers (s3_ranks (s3_closed o0 v3.2.1) (q3_ranks r6)) v3.2.2.2) (q2_points o1)) r1)).bind fun r8 =>
  (some (s3_all (s3_points (s3_size (s3_rankSizes (s3_sets (s3_numbers (s3_ranks (s3_closed o0 v3.2.1) (q3_ranks r6)) (q3_numbers r8)) (q3_sets r8)) (q3_rankSizes r8)) (q3_size r8)) (q2_points o1)) r1)))))
  else ((fX2_closureOf o1 v3.1).bind fun r10 =>
  (ck (okI v3.1 256) (ck (okI v3.1 256) (ck (okI v3.1 256) (some (.inl ((v3.1 + 1), (upd v3.2.1 (ix v3.1) r10), (upd v3.2.2.1 (ix v3.1) 0), (upd v3.2.2.2 (ix v3.1) (-1)))))))))
def fX3_build (o0 : OX3) (o1 : OX2) : Option (OX3) :=
  (fX2_allPoints o1).bind fun r1 =>
  (lp (fX3_build_L18 o0 o1 r1) lpN (0, (q3_closed o0), (q3_ranks o0), (q3_numbers o0)))
theorem myX3_build : MYv yX3_build cX3_build 3 none 1 := ⟨mw_1_192, mw_1_193, mw_1_194, mw_1_5, ⟨by decide +kernel, by decide +kernel⟩, by decide +kernel⟩
set_option maxRecDepth 100000 in
set_option maxHeartbeats 4000000 in
theorem kX3_build (l : Launch) (Z : GZ) (a0 a0_closed a0_ranks a0_numbers a0_sets a0_rankSizes a0_tally a1 a1_sets : Nat) (o0 : OX3) (o1 : OX2) (res : OX3) (h : fX3_build o0 o1 = some res) : MV l Z yX3_build cX3_build 3 2 44 [.ref a0, .ref a1] [(a0, .inr (3, [.ref a0_closed, .ref a0_ranks, .ref a0_numbers, .ref a0_sets, .ref a0_rankSizes, .int (q3_size o0), .ref a0_tally, .int (q3_points o0), .int (q3_all o0)])), (a0_closed, .inl (zI Z, 256, .inl (q3_closed o0))), (a0_ranks, .inl (zI Z, 256, .inl (q3_ranks o0))), (a0_numbers, .inl (zI Z, 256, .inl (q3_numbers o0))), (a0_sets, .inl (zI Z, 256, .inl (q3_sets o0))), (a0_rankSizes, .inl (zI Z, 9, .inl (q3_rankSizes o0))), (a1, .inr (2, [.ref a1_sets, .int (q2_points o1), .int (q2_facets o1)])), (a1_sets, .inl (zI Z, 10, .inl (q2_sets o1)))] [(a0, .inr (3, [.ref a0_closed, .ref a0_ranks, .ref a0_numbers, .ref a0_sets, .ref a0_rankSizes, .int (q3_size res), .ref a0_tally, .int (q3_points res), .int (q3_all res)])), (a0_closed, .inl (zI Z, 256, .inl (q3_closed res))), (a0_ranks, .inl (zI Z, 256, .inl (q3_ranks res))), (a0_numbers, .inl (zI Z, 256, .inl (q3_numbers res))), (a0_sets, .inl (zI Z, 256, .inl (q3_sets res))), (a0_rankSizes, .inl (zI Z, 9, .inl (q3_rankSizes res))), (a1, .inr (2, [.ref a1_sets, .int (q2_points o1), .int (q2_facets o1)])), (a1_sets, .inl (zI Z, 10, .inl (q2_sets o1)))] := by
  refine MV_of (by decide +kernel) (Nat.le_of_ble_eq_true rfl) (fun {p e s m args below meth c} A R hR Q hQ C hr hlk => ?_)
  unfold fX3_build at h
  refine g_lv [0, 1] [(0, .ref a0), (1, .ref a1)] rfl ?_
  refine g_aload_n C dX3_build_0 rfl 0 rfl ?_
  refine g_aload_n C dX3_build_1 rfl 1 rfl ?_
  refine g_get C 2 40 gin2 6 rfl rfl 1 (by decide) mw_1_74 rfl rfl dX3_build_2 ?_
  refine g_put C 3 34 gin3 tyX3 tyX3_ok nmX3 0 rfl rfl 7 (by decide) mw_1_121 rfl rfl (ty := .int) (by decide +kernel) rfl rfl (Nat.le_of_ble_eq_true rfl) [(a0, .inr (3, [.ref a0_closed, .ref a0_ranks, .ref a0_numbers, .ref a0_sets, .ref a0_rankSizes, .int (q3_size o0), .ref a0_tally, .int (q2_points o1), .int (q3_all o0)])), (a0_closed, .inl (zI Z, 256, .inl (q3_closed o0))), (a0_ranks, .inl (zI Z, 256, .inl (q3_ranks o0))), (a0_numbers, .inl (zI Z, 256, .inl (q3_numbers o0))), (a0_sets, .inl (zI Z, 256, .inl (q3_sets o0))), (a0_rankSizes, .inl (zI Z, 9, .inl (q3_rankSizes o0))), (a1, .inr (2, [.ref a1_sets, .int (q2_points o1), .int (q2_facets o1)])), (a1_sets, .inl (zI Z, 10, .inl (q2_sets o1)))] rfl dX3_build_5 ?_
  refine g_aload_n C dX3_build_8 rfl 0 rfl ?_
  refine g_aload_n C dX3_build_9 rfl 1 rfl ?_
  obtain ⟨r1, hr2, h⟩ := bd_of h
  refine g_callVi C (kX2_allPoints l Z a1 a1_sets o1 r1 hr2) 0 rfl (ci := 2) rfl rfl myX2_allPoints 43 mw_1_195 rfl [6] [0, 1, 2, 3, 4, 5, 7] [0, 1, 2, 3, 4, 5, 7, 6] (wr := [(a0, .inr (3, [.ref a0_closed, .ref a0_ranks, .ref a0_numbers, .ref a0_sets, .ref a0_rankSizes, .int (q3_size o0), .ref a0_tally, .int (q2_points o1), .int (q3_all o0)])), (a0_closed, .inl (zI Z, 256, .inl (q3_closed o0))), (a0_ranks, .inl (zI Z, 256, .inl (q3_ranks o0))), (a0_numbers, .inl (zI Z, 256, .inl (q3_numbers o0))), (a0_sets, .inl (zI Z, 256, .inl (q3_sets o0))), (a0_rankSizes, .inl (zI Z, 9, .inl (q3_rankSizes o0))), (a1_sets, .inl (zI Z, 10, .inl (q2_sets o1)))]) rfl rfl (by decide) (by decide) (by decide) [(a0, .inr (3, [.ref a0_closed, .ref a0_ranks, .ref a0_numbers, .ref a0_sets, .ref a0_rankSizes, .int (q3_size o0), .ref a0_tally, .int (q2_points o1), .int (q3_all o0)])), (a0_closed, .inl (zI Z, 256, .inl (q3_closed o0))), (a0_ranks, .inl (zI Z, 256, .inl (q3_ranks o0))), (a0_numbers, .inl (zI Z, 256, .inl (q3_numbers o0))), (a0_sets, .inl (zI Z, 256, .inl (q3_sets o0))), (a0_rankSizes, .inl (zI Z, 9, .inl (q3_rankSizes o0))), (a1, .inr (2, [.ref a1_sets, .int (q2_points o1), .int (q2_facets o1)])), (a1_sets, .inl (zI Z, 10, .inl (q2_sets o1)))] rfl (by decide) (Nat.le_of_ble_eq_true rfl) (by rw [hR]; exact Nat.le_of_ble_eq_true rfl) (by rw [hR]; exact Nat.le_of_ble_eq_true rfl) ⟨by rw [hR]; exact Nat.le_of_ble_eq_true rfl, by rw [hR]; exact Nat.le_of_ble_eq_true rfl⟩ rfl dX3_build_10 ?_
  refine g_put C 3 37 gin3 tyX3 tyX3_ok nmX3 0 rfl rfl 8 (by decide) mw_1_122 rfl rfl (ty := .int) (by decide +kernel) rfl rfl (Nat.le_of_ble_eq_true rfl) [(a0, .inr (3, [.ref a0_closed, .ref a0_ranks, .ref a0_numbers, .ref a0_sets, .ref a0_rankSizes, .int (q3_size o0), .ref a0_tally, .int (q2_points o1), .int r1])), (a0_closed, .inl (zI Z, 256, .inl (q3_closed o0))), (a0_ranks, .inl (zI Z, 256, .inl (q3_ranks o0))), (a0_numbers, .inl (zI Z, 256, .inl (q3_numbers o0))), (a0_sets, .inl (zI Z, 256, .inl (q3_sets o0))), (a0_rankSizes, .inl (zI Z, 9, .inl (q3_rankSizes o0))), (a1, .inr (2, [.ref a1_sets, .int (q2_points o1), .int (q2_facets o1)])), (a1_sets, .inl (zI Z, 10, .inl (q2_sets o1)))] rfl dX3_build_13 ?_
  refine g_iconst C 0 dX3_build_16 (by decide) ?_
  refine g_istore_n C dX3_build_17 rfl (by decide) [(2, .int 0), (0, .ref a0), (1, .ref a1)] rfl ?_
  refine g_lv [1, 2, 0] [(0, .ref a0), (1, .ref a1), (2, .int 0)] rfl ?_
  refine g_loop (lvf := fun v3 => [(0, .ref a0), (1, .ref a1), (2, .int v3.1)]) (wsf := fun v3 => [(a0, .inr (3, [.ref a0_closed, .ref a0_ranks, .ref a0_numbers, .ref a0_sets, .ref a0_rankSizes, .int (q3_size o0), .ref a0_tally, .int (q2_points o1), .int r1])), (a0_closed, .inl (zI Z, 256, .inl v3.2.1)), (a0_ranks, .inl (zI Z, 256, .inl v3.2.2.1)), (a0_numbers, .inl (zI Z, 256, .inl v3.2.2.2)), (a0_sets, .inl (zI Z, 256, .inl (q3_sets o0))), (a0_rankSizes, .inl (zI Z, 9, .inl (q3_rankSizes o0))), (a1, .inr (2, [.ref a1_sets, .int (q2_points o1), .int (q2_facets o1)])), (a1_sets, .inl (zI Z, 10, .inl (q2_sets o1)))]) h (fun v3 y1 h hk1 hx1 => ?_)
  refine g_eq (lv1 := [(0, .ref a0), (1, .ref a1), (2, .int v3.1)]) (st1 := []) (ws1 := [(a0, .inr (3, [.ref a0_closed, .ref a0_ranks, .ref a0_numbers, .ref a0_sets, .ref a0_rankSizes, .int (q3_size o0), .ref a0_tally, .int (q2_points o1), .int r1])), (a0_closed, .inl (zI Z, 256, .inl v3.2.1)), (a0_ranks, .inl (zI Z, 256, .inl v3.2.2.1)), (a0_numbers, .inl (zI Z, 256, .inl v3.2.2.2)), (a0_sets, .inl (zI Z, 256, .inl (q3_sets o0))), (a0_rankSizes, .inl (zI Z, 9, .inl (q3_rankSizes o0))), (a1, .inr (2, [.ref a1_sets, .int (q2_points o1), .int (q2_facets o1)])), (a1_sets, .inl (zI Z, 10, .inl (q2_sets o1)))]) rfl rfl rfl rfl ?_
  unfold fX3_build_L18 at h
  refine g_iload_n C dX3_build_18 rfl 2 rfl ?_
  refine g_aload_n C dX3_build_19 rfl 0 rfl ?_
  refine g_get C 3 37 gin3 0 rfl rfl 8 (by decide) mw_1_122 rfl rfl dX3_build_20 ?_
  refine g_icmp_gt C 57 dX3_build_23 (by decide) (fun c4 => ?_) (fun c4 => ?_)
  · replace h := it_t c4 h
    obtain ⟨r5, h, hy⟩ := ex_of h
    rw [hx1 r5 hy] at h
    refine g_aload_n C dX3_build_57 rfl 0 rfl ?_
    obtain ⟨r6, hr7, h⟩ := bd_of h
    refine g_callVv C (kX3_rankFaces l Z a0 a0_closed a0_ranks a0_numbers a0_sets a0_rankSizes a0_tally (s3_all (s3_points (s3_numbers (s3_ranks (s3_closed o0 v3.2.1) v3.2.2.1) v3.2.2.2) (q2_points o1)) r1) r6 hr7) 0 rfl (ci := 3) rfl rfl myX3_rankFaces 51 mw_1_204 rfl [0, 1, 2] [3, 4, 5, 6, 7] [5, 6, 7, 0, 1, 2, 3, 4] (wr := [(a0_numbers, .inl (zI Z, 256, .inl v3.2.2.2)), (a0_sets, .inl (zI Z, 256, .inl (q3_sets o0))), (a0_rankSizes, .inl (zI Z, 9, .inl (q3_rankSizes o0))), (a1, .inr (2, [.ref a1_sets, .int (q2_points o1), .int (q2_facets o1)])), (a1_sets, .inl (zI Z, 10, .inl (q2_sets o1)))]) rfl rfl (by decide) (by decide) (by decide) [(a0, .inr (3, [.ref a0_closed, .ref a0_ranks, .ref a0_numbers, .ref a0_sets, .ref a0_rankSizes, .int (q3_size o0), .ref a0_tally, .int (q2_points o1), .int r1])), (a0_closed, .inl (zI Z, 256, .inl v3.2.1)), (a0_ranks, .inl (zI Z, 256, .inl (q3_ranks r6))), (a0_numbers, .inl (zI Z, 256, .inl v3.2.2.2)), (a0_sets, .inl (zI Z, 256, .inl (q3_sets o0))), (a0_rankSizes, .inl (zI Z, 9, .inl (q3_rankSizes o0))), (a1, .inr (2, [.ref a1_sets, .int (q2_points o1), .int (q2_facets o1)])), (a1_sets, .inl (zI Z, 10, .inl (q2_sets o1)))] rfl (by decide) (Nat.le_of_ble_eq_true rfl) (by rw [hR]; exact Nat.le_of_ble_eq_true rfl) (by rw [hR]; exact Nat.le_of_ble_eq_true rfl) ⟨by rw [hR]; exact Nat.le_of_ble_eq_true rfl, by rw [hR]; exact Nat.le_of_ble_eq_true rfl⟩ rfl dX3_build_58 ?_
    refine g_aload_n C dX3_build_61 rfl 0 rfl ?_
    obtain ⟨r8, hr9, h⟩ := bd_of h
    refine g_callVv C (kX3_numberFaces l Z a0 a0_closed a0_ranks a0_numbers a0_sets a0_rankSizes a0_tally (s3_all (s3_points (s3_numbers (s3_ranks (s3_closed o0 v3.2.1) (q3_ranks r6)) v3.2.2.2) (q2_points o1)) r1) r8 hr9) 0 rfl (ci := 3) rfl rfl myX3_numberFaces 54 mw_1_215 rfl [0, 1, 2, 3, 4, 5] [6, 7] [2, 3, 4, 5, 6, 7, 0, 1] (wr := [(a1, .inr (2, [.ref a1_sets, .int (q2_points o1), .int (q2_facets o1)])), (a1_sets, .inl (zI Z, 10, .inl (q2_sets o1)))]) rfl rfl (by decide) (by decide) (by decide) [(a0, .inr (3, [.ref a0_closed, .ref a0_ranks, .ref a0_numbers, .ref a0_sets, .ref a0_rankSizes, .int (q3_size r8), .ref a0_tally, .int (q2_points o1), .int r1])), (a0_closed, .inl (zI Z, 256, .inl v3.2.1)), (a0_ranks, .inl (zI Z, 256, .inl (q3_ranks r6))), (a0_numbers, .inl (zI Z, 256, .inl (q3_numbers r8))), (a0_sets, .inl (zI Z, 256, .inl (q3_sets r8))), (a0_rankSizes, .inl (zI Z, 9, .inl (q3_rankSizes r8))), (a1, .inr (2, [.ref a1_sets, .int (q2_points o1), .int (q2_facets o1)])), (a1_sets, .inl (zI Z, 10, .inl (q2_sets o1)))] rfl (by decide) (Nat.le_of_ble_eq_true rfl) (by rw [hR]; exact Nat.le_of_ble_eq_true rfl) (by rw [hR]; exact Nat.le_of_ble_eq_true rfl) ⟨by rw [hR]; exact Nat.le_of_ble_eq_true rfl, by rw [hR]; exact Nat.le_of_ble_eq_true rfl⟩ rfl dX3_build_62 ?_
    obtain rfl := Option.some.inj h
    subst hQ
    exact g_vret C hr hlk dX3_build_65 [0, 1, 2, 3, 4, 5, 6, 7] rfl (by decide)
  · replace h := it_f c4 h
    refine g_aload_n C dX3_build_26 rfl 0 rfl ?_
    refine g_get C 3 9 gin3 0 rfl rfl 0 (by decide) mw_1_108 rfl rfl dX3_build_27 ?_
    refine g_iload_n C dX3_build_30 rfl 2 rfl ?_
    refine g_aload_n C dX3_build_31 rfl 1 rfl ?_
    refine g_iload_n C dX3_build_32 rfl 2 rfl ?_
    obtain ⟨r10, hr11, h⟩ := bd_of h
    refine g_callVi C (kX2_closureOf l Z a1 a1_sets o1 v3.1 r10 hr11) 0 rfl (ci := 2) rfl rfl myX2_closureOf 47 mw_1_199 rfl [6, 7] [0, 1, 2, 3, 4, 5] [0, 1, 2, 3, 4, 5, 6, 7] (wr := [(a0, .inr (3, [.ref a0_closed, .ref a0_ranks, .ref a0_numbers, .ref a0_sets, .ref a0_rankSizes, .int (q3_size o0), .ref a0_tally, .int (q2_points o1), .int r1])), (a0_closed, .inl (zI Z, 256, .inl v3.2.1)), (a0_ranks, .inl (zI Z, 256, .inl v3.2.2.1)), (a0_numbers, .inl (zI Z, 256, .inl v3.2.2.2)), (a0_sets, .inl (zI Z, 256, .inl (q3_sets o0))), (a0_rankSizes, .inl (zI Z, 9, .inl (q3_rankSizes o0)))]) rfl rfl (by decide) (by decide) (by decide) [(a0, .inr (3, [.ref a0_closed, .ref a0_ranks, .ref a0_numbers, .ref a0_sets, .ref a0_rankSizes, .int (q3_size o0), .ref a0_tally, .int (q2_points o1), .int r1])), (a0_closed, .inl (zI Z, 256, .inl v3.2.1)), (a0_ranks, .inl (zI Z, 256, .inl v3.2.2.1)), (a0_numbers, .inl (zI Z, 256, .inl v3.2.2.2)), (a0_sets, .inl (zI Z, 256, .inl (q3_sets o0))), (a0_rankSizes, .inl (zI Z, 9, .inl (q3_rankSizes o0))), (a1, .inr (2, [.ref a1_sets, .int (q2_points o1), .int (q2_facets o1)])), (a1_sets, .inl (zI Z, 10, .inl (q2_sets o1)))] rfl (by decide) (Nat.le_of_ble_eq_true rfl) (by rw [hR]; exact Nat.le_of_ble_eq_true rfl) (by rw [hR]; exact Nat.le_of_ble_eq_true rfl) ⟨by rw [hR]; exact Nat.le_of_ble_eq_true rfl, by rw [hR]; exact Nat.le_of_ble_eq_true rfl⟩ rfl dX3_build_33 ?_
    obtain ⟨hi12, h⟩ := ck_of h
    refine g_iast C 1 rfl hi12 [(a0, .inr (3, [.ref a0_closed, .ref a0_ranks, .ref a0_numbers, .ref a0_sets, .ref a0_rankSizes, .int (q3_size o0), .ref a0_tally, .int (q2_points o1), .int r1])), (a0_closed, .inl (zI Z, 256, .inl (upd v3.2.1 (ix v3.1) r10))), (a0_ranks, .inl (zI Z, 256, .inl v3.2.2.1)), (a0_numbers, .inl (zI Z, 256, .inl v3.2.2.2)), (a0_sets, .inl (zI Z, 256, .inl (q3_sets o0))), (a0_rankSizes, .inl (zI Z, 9, .inl (q3_rankSizes o0))), (a1, .inr (2, [.ref a1_sets, .int (q2_points o1), .int (q2_facets o1)])), (a1_sets, .inl (zI Z, 10, .inl (q2_sets o1)))] rfl dX3_build_36 ?_
    refine g_aload_n C dX3_build_37 rfl 0 rfl ?_
    refine g_get C 3 15 gin3 0 rfl rfl 1 (by decide) mw_1_110 rfl rfl dX3_build_38 ?_
    refine g_iload_n C dX3_build_41 rfl 2 rfl ?_
    refine g_iconst C 0 dX3_build_42 (by decide) ?_
    obtain ⟨hi13, h⟩ := ck_of h
    refine g_iast C 2 rfl hi13 [(a0, .inr (3, [.ref a0_closed, .ref a0_ranks, .ref a0_numbers, .ref a0_sets, .ref a0_rankSizes, .int (q3_size o0), .ref a0_tally, .int (q2_points o1), .int r1])), (a0_closed, .inl (zI Z, 256, .inl (upd v3.2.1 (ix v3.1) r10))), (a0_ranks, .inl (zI Z, 256, .inl (upd v3.2.2.1 (ix v3.1) 0))), (a0_numbers, .inl (zI Z, 256, .inl v3.2.2.2)), (a0_sets, .inl (zI Z, 256, .inl (q3_sets o0))), (a0_rankSizes, .inl (zI Z, 9, .inl (q3_rankSizes o0))), (a1, .inr (2, [.ref a1_sets, .int (q2_points o1), .int (q2_facets o1)])), (a1_sets, .inl (zI Z, 10, .inl (q2_sets o1)))] rfl dX3_build_43 ?_
    refine g_aload_n C dX3_build_44 rfl 0 rfl ?_
    refine g_get C 3 18 gin3 0 rfl rfl 2 (by decide) mw_1_112 rfl rfl dX3_build_45 ?_
    refine g_iload_n C dX3_build_48 rfl 2 rfl ?_
    refine g_iconst C (-1) dX3_build_49 (by decide) ?_
    obtain ⟨hi14, h⟩ := ck_of h
    refine g_iast C 3 rfl hi14 [(a0, .inr (3, [.ref a0_closed, .ref a0_ranks, .ref a0_numbers, .ref a0_sets, .ref a0_rankSizes, .int (q3_size o0), .ref a0_tally, .int (q2_points o1), .int r1])), (a0_closed, .inl (zI Z, 256, .inl (upd v3.2.1 (ix v3.1) r10))), (a0_ranks, .inl (zI Z, 256, .inl (upd v3.2.2.1 (ix v3.1) 0))), (a0_numbers, .inl (zI Z, 256, .inl (upd v3.2.2.2 (ix v3.1) (-1)))), (a0_sets, .inl (zI Z, 256, .inl (q3_sets o0))), (a0_rankSizes, .inl (zI Z, 9, .inl (q3_rankSizes o0))), (a1, .inr (2, [.ref a1_sets, .int (q2_points o1), .int (q2_facets o1)])), (a1_sets, .inl (zI Z, 10, .inl (q2_sets o1)))] rfl dX3_build_50 ?_
    refine g_iinc C (v3.1 + 1) dX3_build_51 2 rfl rfl (by decide) [(2, .int (v3.1 + 1)), (0, .ref a0), (1, .ref a1)] rfl ?_
    refine g_goto C 18 dX3_build_54 (by decide) ?_
    refine g_lv [1, 2, 0] [(0, .ref a0), (1, .ref a1), (2, .int (v3.1 + 1))] rfl ?_
    have q9 := hk1 ((v3.1 + 1), (upd v3.2.1 (ix v3.1) r10), (upd v3.2.2.1 (ix v3.1) 0), (upd v3.2.2.2 (ix v3.1) (-1))) (Option.some.inj h).symm
    dsimp only at q9
    exact q9
def fX3_isCover_L23 (o0 : OX3) (p1 : Int32) (p2 : Int32) (v3 : Int32) : Option ((Int32) ⊕ (Int32)) :=
  if (q3_points o0) ≤ v3 then (ex (some 1))
  else (if ((jshr (p2 &&& (p1 ^^^ (-1))) v3) &&& 1) = 1 then (ck (okI (p1 ||| (jshl 1 v3)) 256) (if ((q3_closed o0) (ix (p1 ||| (jshl 1 v3)))) = p2 then (some (.inl (v3 + 1)))
  else (ex (some 0))))
  else (some (.inl (v3 + 1))))
def fX3_isCover (o0 : OX3) (p1 : Int32) (p2 : Int32) : Option (Int32) :=
  if (p2 &&& (p1 ^^^ (-1))) = 0 then (some 0)
  else (if (p1 &&& (p2 ^^^ (-1))) = 0 then (lp (fX3_isCover_L23 o0 p1 p2) lpN 0)
  else (some 0))
theorem myX3_isCover : MYv yX3_isCover cX3_isCover 5 (some .boolean) 2 := ⟨mw_2_181, mw_2_182, mw_2_183, mw_1_5, ⟨by decide +kernel, by decide +kernel⟩, by decide +kernel⟩
set_option maxRecDepth 100000 in
set_option maxHeartbeats 4000000 in
theorem kX3_isCover (l : Launch) (Z : GZ) (a0 a0_closed a0_ranks a0_numbers a0_sets a0_rankSizes a0_tally : Nat) (o0 : OX3) (p1 : Int32) (p2 : Int32) (res : Int32) (h : fX3_isCover o0 p1 p2 = some res) : MI l Z yX3_isCover cX3_isCover 5 .boolean 0 0 [.ref a0, .int p1, .int p2] [(a0, .inr (3, [.ref a0_closed, .ref a0_ranks, .ref a0_numbers, .ref a0_sets, .ref a0_rankSizes, .int (q3_size o0), .ref a0_tally, .int (q3_points o0), .int (q3_all o0)])), (a0_closed, .inl (zI Z, 256, .inl (q3_closed o0)))] res [(a0, .inr (3, [.ref a0_closed, .ref a0_ranks, .ref a0_numbers, .ref a0_sets, .ref a0_rankSizes, .int (q3_size o0), .ref a0_tally, .int (q3_points o0), .int (q3_all o0)])), (a0_closed, .inl (zI Z, 256, .inl (q3_closed o0)))] := by
  refine MI_of (by decide +kernel) (Nat.le_of_ble_eq_true rfl) (fun {p e s m args below meth c} A R hR Q hQ C hr hlk => ?_)
  unfold fX3_isCover at h
  refine g_lv [0, 1, 2] [(0, .ref a0), (1, .int p1), (2, .int p2)] rfl ?_
  refine g_iload_n C dX3_isCover_0 rfl 2 rfl ?_
  refine g_iload_n C dX3_isCover_1 rfl 1 rfl ?_
  refine g_iconst C (-1) dX3_isCover_2 (by decide) ?_
  refine g_ixor C dX3_isCover_3 ?_
  refine g_iand C dX3_isCover_4 ?_
  refine g_istore_n C dX3_isCover_5 rfl (by decide) [(3, .int (p2 &&& (p1 ^^^ (-1)))), (0, .ref a0), (1, .int p1), (2, .int p2)] rfl ?_
  refine g_iload_n C dX3_isCover_6 rfl 0 rfl ?_
  refine g_if_eq C 18 dX3_isCover_7 (by decide) (fun c1 => ?_) (fun c1 => ?_)
  · replace h := it_t c1 h
    refine g_iconst C 0 dX3_isCover_18 (by decide) ?_
    obtain rfl := Option.some.inj h
    subst hQ
    exact g_zret C rfl (Or.inl rfl) hr hlk dX3_isCover_19 [0, 1] rfl (by decide)
  · replace h := it_f c1 h
    refine g_iload_n C dX3_isCover_10 rfl 2 rfl ?_
    refine g_iload_n C dX3_isCover_11 rfl 3 rfl ?_
    refine g_iconst C (-1) dX3_isCover_12 (by decide) ?_
    refine g_ixor C dX3_isCover_13 ?_
    refine g_iand C dX3_isCover_14 ?_
    refine g_if_eq C 20 dX3_isCover_15 (by decide) (fun c2 => ?_) (fun c2 => ?_)
    · replace h := it_t c2 h
      refine g_iconst C 0 dX3_isCover_20 (by decide) ?_
      refine g_istore C dX3_isCover_21 (by decide) [(4, .int 0), (3, .int (p2 &&& (p1 ^^^ (-1)))), (0, .ref a0), (1, .int p1), (2, .int p2)] rfl ?_
      refine g_lv [2, 3, 4, 1, 0] [(0, .ref a0), (1, .int p1), (2, .int p2), (3, .int (p2 &&& (p1 ^^^ (-1)))), (4, .int 0)] rfl ?_
      refine g_loop (lvf := fun v3 => [(0, .ref a0), (1, .int p1), (2, .int p2), (3, .int (p2 &&& (p1 ^^^ (-1)))), (4, .int v3)]) (wsf := fun v3 => [(a0, .inr (3, [.ref a0_closed, .ref a0_ranks, .ref a0_numbers, .ref a0_sets, .ref a0_rankSizes, .int (q3_size o0), .ref a0_tally, .int (q3_points o0), .int (q3_all o0)])), (a0_closed, .inl (zI Z, 256, .inl (q3_closed o0)))]) h (fun v3 y1 h hk1 hx1 => ?_)
      refine g_eq (lv1 := [(0, .ref a0), (1, .int p1), (2, .int p2), (3, .int (p2 &&& (p1 ^^^ (-1)))), (4, .int v3)]) (st1 := []) (ws1 := [(a0, .inr (3, [.ref a0_closed, .ref a0_ranks, .ref a0_numbers, .ref a0_sets, .ref a0_rankSizes, .int (q3_size o0), .ref a0_tally, .int (q3_points o0), .int (q3_all o0)])), (a0_closed, .inl (zI Z, 256, .inl (q3_closed o0)))]) rfl rfl rfl rfl ?_
      unfold fX3_isCover_L23 at h
      refine g_iload C dX3_isCover_23 4 rfl ?_
      refine g_aload_n C dX3_isCover_25 rfl 0 rfl ?_
      refine g_get C 3 34 gin3 0 rfl rfl 7 (by decide) mw_1_121 rfl rfl dX3_isCover_26 ?_
      refine g_icmp_ge C 65 dX3_isCover_29 (by decide) (fun c4 => ?_) (fun c4 => ?_)
      · replace h := it_t c4 h
        obtain ⟨r5, h, hy⟩ := ex_of h
        rw [hx1 r5 hy] at h
        refine g_iconst C 1 dX3_isCover_65 (by decide) ?_
        obtain rfl := Option.some.inj h
        subst hQ
        exact g_zret C rfl (Or.inr rfl) hr hlk dX3_isCover_66 [0, 1] rfl (by decide)
      · replace h := it_f c4 h
        refine g_iload_n C dX3_isCover_32 rfl 3 rfl ?_
        refine g_iload C dX3_isCover_33 4 rfl ?_
        refine g_ishr C dX3_isCover_35 ?_
        refine g_iconst C 1 dX3_isCover_36 (by decide) ?_
        refine g_iand C dX3_isCover_37 ?_
        refine g_iconst C 1 dX3_isCover_38 (by decide) ?_
        refine g_icmp_ne C 59 dX3_isCover_39 (by decide) (fun c6 => ?_) (fun c6 => ?_)
        · replace h := it_f c6 h
          refine g_iinc C (v3 + 1) dX3_isCover_59 4 rfl rfl (by decide) [(4, .int (v3 + 1)), (0, .ref a0), (1, .int p1), (2, .int p2), (3, .int (p2 &&& (p1 ^^^ (-1))))] rfl ?_
          refine g_goto C 23 dX3_isCover_62 (by decide) ?_
          refine g_lv [1, 2, 3, 4, 0] [(0, .ref a0), (1, .int p1), (2, .int p2), (3, .int (p2 &&& (p1 ^^^ (-1)))), (4, .int (v3 + 1))] rfl ?_
          exact hk1 (v3 + 1) (Option.some.inj h).symm
        · replace h := it_t c6 h
          refine g_aload_n C dX3_isCover_42 rfl 0 rfl ?_
          refine g_get C 3 9 gin3 0 rfl rfl 0 (by decide) mw_1_108 rfl rfl dX3_isCover_43 ?_
          refine g_iload_n C dX3_isCover_46 rfl 1 rfl ?_
          refine g_iconst C 1 dX3_isCover_47 (by decide) ?_
          refine g_iload C dX3_isCover_48 4 rfl ?_
          refine g_ishl C dX3_isCover_50 ?_
          refine g_ior C dX3_isCover_51 ?_
          obtain ⟨hi7, h⟩ := ck_of h
          refine g_iald C 1 rfl hi7 dX3_isCover_52 ?_
          refine g_iload_n C dX3_isCover_53 rfl 2 rfl ?_
          refine g_icmp_eq C 59 dX3_isCover_54 (by decide) (fun c8 => ?_) (fun c8 => ?_)
          · replace h := it_t c8 h
            refine g_iinc C (v3 + 1) dX3_isCover_59 4 rfl rfl (by decide) [(4, .int (v3 + 1)), (0, .ref a0), (1, .int p1), (2, .int p2), (3, .int (p2 &&& (p1 ^^^ (-1))))] rfl ?_
            refine g_goto C 23 dX3_isCover_62 (by decide) ?_
            refine g_lv [1, 2, 3, 4, 0] [(0, .ref a0), (1, .int p1), (2, .int p2), (3, .int (p2 &&& (p1 ^^^ (-1)))), (4, .int (v3 + 1))] rfl ?_
            exact hk1 (v3 + 1) (Option.some.inj h).symm
          · replace h := it_f c8 h
            obtain ⟨r9, h, hy⟩ := ex_of h
            rw [hx1 r9 hy] at h
            refine g_iconst C 0 dX3_isCover_57 (by decide) ?_
            obtain rfl := Option.some.inj h
            subst hQ
            exact g_zret C rfl (Or.inl rfl) hr hlk dX3_isCover_58 [0, 1] rfl (by decide)
    · replace h := it_f c2 h
      refine g_iconst C 0 dX3_isCover_18 (by decide) ?_
      obtain rfl := Option.some.inj h
      subst hQ
      exact g_zret C rfl (Or.inl rfl) hr hlk dX3_isCover_19 [0, 1] rfl (by decide)
def fX3_isCoverInWay (o0 : OX3) (p1 : Int32) (p2 : Int32) (p3 : Int32) : Option (Int32) :=
  if p3 = 0 then ((fX3_isCover o0 p2 p1).bind fun r2 =>
  (ck (is01 r2) (some r2)))
  else ((fX3_isCover o0 p1 p2).bind fun r4 =>
  (ck (is01 r4) (some r4)))
theorem myX3_isCoverInWay : MYv yX3_isCoverInWay cX3_isCoverInWay 4 (some .boolean) 3 := ⟨mw_4_41, ms_25, mw_4_42, mw_1_5, ⟨by decide +kernel, by decide +kernel⟩, by decide +kernel⟩
set_option maxRecDepth 100000 in
set_option maxHeartbeats 4000000 in
theorem kX3_isCoverInWay (l : Launch) (Z : GZ) (a0 a0_closed a0_ranks a0_numbers a0_sets a0_rankSizes a0_tally : Nat) (o0 : OX3) (p1 : Int32) (p2 : Int32) (p3 : Int32) (res : Int32) (h : fX3_isCoverInWay o0 p1 p2 p3 = some res) : MI l Z yX3_isCoverInWay cX3_isCoverInWay 4 .boolean 1 24 [.ref a0, .int p1, .int p2, .int p3] [(a0, .inr (3, [.ref a0_closed, .ref a0_ranks, .ref a0_numbers, .ref a0_sets, .ref a0_rankSizes, .int (q3_size o0), .ref a0_tally, .int (q3_points o0), .int (q3_all o0)])), (a0_closed, .inl (zI Z, 256, .inl (q3_closed o0)))] res [(a0, .inr (3, [.ref a0_closed, .ref a0_ranks, .ref a0_numbers, .ref a0_sets, .ref a0_rankSizes, .int (q3_size o0), .ref a0_tally, .int (q3_points o0), .int (q3_all o0)])), (a0_closed, .inl (zI Z, 256, .inl (q3_closed o0)))] := by
  refine MI_of (by decide +kernel) (Nat.le_of_ble_eq_true rfl) (fun {p e s m args below meth c} A R hR Q hQ C hr hlk => ?_)
  unfold fX3_isCoverInWay at h
  refine g_lv [0, 1, 2, 3] [(0, .ref a0), (1, .int p1), (2, .int p2), (3, .int p3)] rfl ?_
  refine g_iload_n C dX3_isCoverInWay_0 rfl 3 rfl ?_
  refine g_if_eq C 13 dX3_isCoverInWay_1 (by decide) (fun c1 => ?_) (fun c1 => ?_)
  · replace h := it_t c1 h
    refine g_aload_n C dX3_isCoverInWay_13 rfl 0 rfl ?_
    refine g_iload_n C dX3_isCoverInWay_14 rfl 2 rfl ?_
    refine g_iload_n C dX3_isCoverInWay_15 rfl 1 rfl ?_
    obtain ⟨r2, hr3, h⟩ := bd_of h
    refine g_callVi C (kX3_isCover l Z a0 a0_closed a0_ranks a0_numbers a0_sets a0_rankSizes a0_tally o0 p2 p1 r2 hr3) 0 rfl (ci := 3) rfl rfl myX3_isCover 67 mw_2_180 rfl [0, 1] [] [0, 1] (wr := []) rfl rfl (by decide) (by decide) (by decide) [(a0, .inr (3, [.ref a0_closed, .ref a0_ranks, .ref a0_numbers, .ref a0_sets, .ref a0_rankSizes, .int (q3_size o0), .ref a0_tally, .int (q3_points o0), .int (q3_all o0)])), (a0_closed, .inl (zI Z, 256, .inl (q3_closed o0)))] rfl (by decide) (Nat.le_of_ble_eq_true rfl) (by rw [hR]; exact Nat.le_of_ble_eq_true rfl) (by rw [hR]; exact Nat.le_of_ble_eq_true rfl) ⟨by rw [hR]; exact Nat.le_of_ble_eq_true rfl, by rw [hR]; exact Nat.le_of_ble_eq_true rfl⟩ rfl dX3_isCoverInWay_16 ?_
    obtain ⟨hb, h⟩ := ck_of h
    obtain rfl := Option.some.inj h
    subst hQ
    exact g_zret C rfl (is01_of hb) hr hlk dX3_isCoverInWay_19 [0, 1] rfl (by decide)
  · replace h := it_f c1 h
    refine g_aload_n C dX3_isCoverInWay_4 rfl 0 rfl ?_
    refine g_iload_n C dX3_isCoverInWay_5 rfl 1 rfl ?_
    refine g_iload_n C dX3_isCoverInWay_6 rfl 2 rfl ?_
    obtain ⟨r4, hr5, h⟩ := bd_of h
    refine g_callVi C (kX3_isCover l Z a0 a0_closed a0_ranks a0_numbers a0_sets a0_rankSizes a0_tally o0 p1 p2 r4 hr5) 0 rfl (ci := 3) rfl rfl myX3_isCover 67 mw_2_180 rfl [0, 1] [] [0, 1] (wr := []) rfl rfl (by decide) (by decide) (by decide) [(a0, .inr (3, [.ref a0_closed, .ref a0_ranks, .ref a0_numbers, .ref a0_sets, .ref a0_rankSizes, .int (q3_size o0), .ref a0_tally, .int (q3_points o0), .int (q3_all o0)])), (a0_closed, .inl (zI Z, 256, .inl (q3_closed o0)))] rfl (by decide) (Nat.le_of_ble_eq_true rfl) (by rw [hR]; exact Nat.le_of_ble_eq_true rfl) (by rw [hR]; exact Nat.le_of_ble_eq_true rfl) ⟨by rw [hR]; exact Nat.le_of_ble_eq_true rfl, by rw [hR]; exact Nat.le_of_ble_eq_true rfl⟩ rfl dX3_isCoverInWay_7 ?_
    refine g_goto C 19 dX3_isCoverInWay_10 (by decide) ?_
    obtain ⟨hb, h⟩ := ck_of h
    obtain rfl := Option.some.inj h
    subst hQ
    exact g_zret C rfl (is01_of hb) hr hlk dX3_isCoverInWay_19 [0, 1] rfl (by decide)
def fX3_coverBy_J35 (o0 : OX3) (p1 : Int32) (p2 : Int32) (x2 : Int32) : Option (Int32) :=
  if x2 = 0 then (some (-1))
  else ((fX3_isCover o0 p1 ((q3_closed o0) (ix (p1 ||| (jshl 1 p2))))).bind fun r4 =>
  (if r4 = 0 then (some (-1))
  else (some ((q3_closed o0) (ix (p1 ||| (jshl 1 p2)))))))
def fX3_coverBy (o0 : OX3) (p1 : Int32) (p2 : Int32) : Option (Int32) :=
  ck (okI (p1 ||| (jshl 1 p2)) 256) (if ((((q3_closed o0) (ix (p1 ||| (jshl 1 p2)))) &&& (p1 ^^^ (-1))) &&& (-(((q3_closed o0) (ix (p1 ||| (jshl 1 p2)))) &&& (p1 ^^^ (-1))))) = (jshl 1 p2) then (fX3_coverBy_J35 o0 p1 p2 1)
  else (fX3_coverBy_J35 o0 p1 p2 0))
theorem myX3_coverBy : MYv yX3_coverBy cX3_coverBy 6 (some .int) 2 := ⟨mw_2_178, ms_8, mw_2_179, mw_1_5, ⟨by decide +kernel, by decide +kernel⟩, by decide +kernel⟩
set_option maxRecDepth 100000 in
set_option maxHeartbeats 4000000 in
theorem kX3_coverBy (l : Launch) (Z : GZ) (a0 a0_closed a0_ranks a0_numbers a0_sets a0_rankSizes a0_tally : Nat) (o0 : OX3) (p1 : Int32) (p2 : Int32) (res : Int32) (h : fX3_coverBy o0 p1 p2 = some res) : MI l Z yX3_coverBy cX3_coverBy 6 .int 1 24 [.ref a0, .int p1, .int p2] [(a0, .inr (3, [.ref a0_closed, .ref a0_ranks, .ref a0_numbers, .ref a0_sets, .ref a0_rankSizes, .int (q3_size o0), .ref a0_tally, .int (q3_points o0), .int (q3_all o0)])), (a0_closed, .inl (zI Z, 256, .inl (q3_closed o0)))] res [(a0, .inr (3, [.ref a0_closed, .ref a0_ranks, .ref a0_numbers, .ref a0_sets, .ref a0_rankSizes, .int (q3_size o0), .ref a0_tally, .int (q3_points o0), .int (q3_all o0)])), (a0_closed, .inl (zI Z, 256, .inl (q3_closed o0)))] := by
  refine MI_of (by decide +kernel) (Nat.le_of_ble_eq_true rfl) (fun {p e s m args below meth c} A R hR Q hQ C hr hlk => ?_)
  unfold fX3_coverBy at h
  refine g_lv [0, 1, 2] [(0, .ref a0), (1, .int p1), (2, .int p2)] rfl ?_
  refine g_aload_n C dX3_coverBy_0 rfl 0 rfl ?_
  refine g_get C 3 9 gin3 0 rfl rfl 0 (by decide) mw_1_108 rfl rfl dX3_coverBy_1 ?_
  refine g_iload_n C dX3_coverBy_4 rfl 1 rfl ?_
  refine g_iconst C 1 dX3_coverBy_5 (by decide) ?_
  refine g_iload_n C dX3_coverBy_6 rfl 2 rfl ?_
  refine g_ishl C dX3_coverBy_7 ?_
  refine g_ior C dX3_coverBy_8 ?_
  obtain ⟨hi1, h⟩ := ck_of h
  refine g_iald C 1 rfl hi1 dX3_coverBy_9 ?_
  refine g_istore_n C dX3_coverBy_10 rfl (by decide) [(3, .int ((q3_closed o0) (ix (p1 ||| (jshl 1 p2))))), (0, .ref a0), (1, .int p1), (2, .int p2)] rfl ?_
  refine g_iload_n C dX3_coverBy_11 rfl 0 rfl ?_
  refine g_iload_n C dX3_coverBy_12 rfl 2 rfl ?_
  refine g_iconst C (-1) dX3_coverBy_13 (by decide) ?_
  refine g_ixor C dX3_coverBy_14 ?_
  refine g_iand C dX3_coverBy_15 ?_
  refine g_istore C dX3_coverBy_16 (by decide) [(4, .int (((q3_closed o0) (ix (p1 ||| (jshl 1 p2)))) &&& (p1 ^^^ (-1)))), (3, .int ((q3_closed o0) (ix (p1 ||| (jshl 1 p2))))), (0, .ref a0), (1, .int p1), (2, .int p2)] rfl ?_
  refine g_iload C dX3_coverBy_18 0 rfl ?_
  refine g_iload C dX3_coverBy_20 0 rfl ?_
  refine g_ineg C dX3_coverBy_22 ?_
  refine g_iand C dX3_coverBy_23 ?_
  refine g_iconst C 1 dX3_coverBy_24 (by decide) ?_
  refine g_iload_n C dX3_coverBy_25 rfl 4 rfl ?_
  refine g_ishl C dX3_coverBy_26 ?_
  have hj35 : ∀ (x2 : Int32), fX3_coverBy_J35 o0 p1 p2 x2 = some res → Gw p l e R s m args below meth c 6 Z A Q 0 0 35 [(0, .ref a0), (1, .int p1), (3, .int ((q3_closed o0) (ix (p1 ||| (jshl 1 p2)))))] [.int x2] [(a0, .inr (3, [.ref a0_closed, .ref a0_ranks, .ref a0_numbers, .ref a0_sets, .ref a0_rankSizes, .int (q3_size o0), .ref a0_tally, .int (q3_points o0), .int (q3_all o0)])), (a0_closed, .inl (zI Z, 256, .inl (q3_closed o0)))] := by
    intro x2 h
    unfold fX3_coverBy_J35 at h
    refine g_istore C dX3_coverBy_35 (by decide) [(5, .int x2), (0, .ref a0), (1, .int p1), (3, .int ((q3_closed o0) (ix (p1 ||| (jshl 1 p2)))))] rfl ?_
    refine g_iload C dX3_coverBy_37 0 rfl ?_
    refine g_if_eq C 55 dX3_coverBy_39 (by decide) (fun c3 => ?_) (fun c3 => ?_)
    · replace h := it_t c3 h
      refine g_iconst C (-1) dX3_coverBy_55 (by decide) ?_
      obtain rfl := Option.some.inj h
      subst hQ
      exact g_iret C rfl hr hlk dX3_coverBy_56 [0, 1] rfl (by decide)
    · replace h := it_f c3 h
      refine g_aload_n C dX3_coverBy_42 rfl 1 rfl ?_
      refine g_iload_n C dX3_coverBy_43 rfl 2 rfl ?_
      refine g_iload_n C dX3_coverBy_44 rfl 3 rfl ?_
      obtain ⟨r4, hr5, h⟩ := bd_of h
      refine g_callVi C (kX3_isCover l Z a0 a0_closed a0_ranks a0_numbers a0_sets a0_rankSizes a0_tally o0 p1 ((q3_closed o0) (ix (p1 ||| (jshl 1 p2)))) r4 hr5) 0 rfl (ci := 3) rfl rfl myX3_isCover 67 mw_2_180 rfl [0, 1] [] [0, 1] (wr := []) rfl rfl (by decide) (by decide) (by decide) [(a0, .inr (3, [.ref a0_closed, .ref a0_ranks, .ref a0_numbers, .ref a0_sets, .ref a0_rankSizes, .int (q3_size o0), .ref a0_tally, .int (q3_points o0), .int (q3_all o0)])), (a0_closed, .inl (zI Z, 256, .inl (q3_closed o0)))] rfl (by decide) (Nat.le_of_ble_eq_true rfl) (by rw [hR]; exact Nat.le_of_ble_eq_true rfl) (by rw [hR]; exact Nat.le_of_ble_eq_true rfl) ⟨by rw [hR]; exact Nat.le_of_ble_eq_true rfl, by rw [hR]; exact Nat.le_of_ble_eq_true rfl⟩ rfl dX3_coverBy_45 ?_
      refine g_if_eq C 55 dX3_coverBy_48 (by decide) (fun c6 => ?_) (fun c6 => ?_)
      · replace h := it_t c6 h
        refine g_iconst C (-1) dX3_coverBy_55 (by decide) ?_
        obtain rfl := Option.some.inj h
        subst hQ
        exact g_iret C rfl hr hlk dX3_coverBy_56 [0, 1] rfl (by decide)
      · replace h := it_f c6 h
        refine g_iload_n C dX3_coverBy_51 rfl 3 rfl ?_
        refine g_goto C 56 dX3_coverBy_52 (by decide) ?_
        obtain rfl := Option.some.inj h
        subst hQ
        exact g_iret C rfl hr hlk dX3_coverBy_56 [0, 1] rfl (by decide)
  refine g_icmp_ne C 34 dX3_coverBy_27 (by decide) (fun c7 => ?_) (fun c7 => ?_)
  · replace h := it_f c7 h
    refine g_iconst C 0 dX3_coverBy_34 (by decide) ?_
    refine g_lv [2, 3, 1] [(0, .ref a0), (1, .int p1), (3, .int ((q3_closed o0) (ix (p1 ||| (jshl 1 p2)))))] rfl ?_
    exact hj35 0 h
  · replace h := it_t c7 h
    refine g_iconst C 1 dX3_coverBy_30 (by decide) ?_
    refine g_goto C 35 dX3_coverBy_31 (by decide) ?_
    refine g_lv [2, 3, 1] [(0, .ref a0), (1, .int p1), (3, .int ((q3_closed o0) (ix (p1 ||| (jshl 1 p2)))))] rfl ?_
    exact hj35 1 h
def fX3_countCovers_L5 (o0 : OX3) (p1 : Int32) (p2 : Int32) (v1 : Int32 × Int32) : Option ((Int32 × Int32) ⊕ (Int32)) :=
  if (q3_size o0) ≤ v1.2 then (ex (some v1.1))
  else (ck (okI v1.2 256) ((fX3_isCoverInWay o0 p1 ((q3_sets o0) (ix v1.2)) p2).bind fun r5 =>
  (if r5 = 0 then (some (.inl (v1.1, (v1.2 + 1))))
  else (some (.inl ((v1.1 + 1), (v1.2 + 1)))))))
def fX3_countCovers (o0 : OX3) (p1 : Int32) (p2 : Int32) : Option (Int32) :=
  lp (fX3_countCovers_L5 o0 p1 p2) lpN (0, 0)
theorem myX3_countCovers : MYv yX3_countCovers cX3_countCovers 5 (some .int) 2 := ⟨mw_4_36, mw_4_37, mw_4_38, mw_1_5, ⟨by decide +kernel, by decide +kernel⟩, by decide +kernel⟩
set_option maxRecDepth 100000 in
set_option maxHeartbeats 4000000 in
theorem kX3_countCovers (l : Launch) (Z : GZ) (a0 a0_closed a0_ranks a0_numbers a0_sets a0_rankSizes a0_tally : Nat) (o0 : OX3) (p1 : Int32) (p2 : Int32) (res : Int32) (h : fX3_countCovers o0 p1 p2 = some res) : MI l Z yX3_countCovers cX3_countCovers 5 .int 2 47 [.ref a0, .int p1, .int p2] [(a0, .inr (3, [.ref a0_closed, .ref a0_ranks, .ref a0_numbers, .ref a0_sets, .ref a0_rankSizes, .int (q3_size o0), .ref a0_tally, .int (q3_points o0), .int (q3_all o0)])), (a0_closed, .inl (zI Z, 256, .inl (q3_closed o0))), (a0_sets, .inl (zI Z, 256, .inl (q3_sets o0)))] res [(a0, .inr (3, [.ref a0_closed, .ref a0_ranks, .ref a0_numbers, .ref a0_sets, .ref a0_rankSizes, .int (q3_size o0), .ref a0_tally, .int (q3_points o0), .int (q3_all o0)])), (a0_closed, .inl (zI Z, 256, .inl (q3_closed o0))), (a0_sets, .inl (zI Z, 256, .inl (q3_sets o0)))] := by
  refine MI_of (by decide +kernel) (Nat.le_of_ble_eq_true rfl) (fun {p e s m args below meth c} A R hR Q hQ C hr hlk => ?_)
  unfold fX3_countCovers at h
  refine g_lv [0, 1, 2] [(0, .ref a0), (1, .int p1), (2, .int p2)] rfl ?_
  refine g_iconst C 0 dX3_countCovers_0 (by decide) ?_
  refine g_istore_n C dX3_countCovers_1 rfl (by decide) [(3, .int 0), (0, .ref a0), (1, .int p1), (2, .int p2)] rfl ?_
  refine g_iconst C 0 dX3_countCovers_2 (by decide) ?_
  refine g_istore C dX3_countCovers_3 (by decide) [(4, .int 0), (3, .int 0), (0, .ref a0), (1, .int p1), (2, .int p2)] rfl ?_
  refine g_lv [2, 3, 4, 1, 0] [(0, .ref a0), (1, .int p1), (2, .int p2), (3, .int 0), (4, .int 0)] rfl ?_
  refine g_loop (lvf := fun v1 => [(0, .ref a0), (1, .int p1), (2, .int p2), (3, .int v1.1), (4, .int v1.2)]) (wsf := fun v1 => [(a0, .inr (3, [.ref a0_closed, .ref a0_ranks, .ref a0_numbers, .ref a0_sets, .ref a0_rankSizes, .int (q3_size o0), .ref a0_tally, .int (q3_points o0), .int (q3_all o0)])), (a0_closed, .inl (zI Z, 256, .inl (q3_closed o0))), (a0_sets, .inl (zI Z, 256, .inl (q3_sets o0)))]) h (fun v1 y1 h hk1 hx1 => ?_)
  refine g_eq (lv1 := [(0, .ref a0), (1, .int p1), (2, .int p2), (3, .int v1.1), (4, .int v1.2)]) (st1 := []) (ws1 := [(a0, .inr (3, [.ref a0_closed, .ref a0_ranks, .ref a0_numbers, .ref a0_sets, .ref a0_rankSizes, .int (q3_size o0), .ref a0_tally, .int (q3_points o0), .int (q3_all o0)])), (a0_closed, .inl (zI Z, 256, .inl (q3_closed o0))), (a0_sets, .inl (zI Z, 256, .inl (q3_sets o0)))]) rfl rfl rfl rfl ?_
  unfold fX3_countCovers_L5 at h
  refine g_iload C dX3_countCovers_5 4 rfl ?_
  refine g_aload_n C dX3_countCovers_7 rfl 0 rfl ?_
  refine g_get C 3 27 gin3 0 rfl rfl 5 (by decide) mw_1_118 rfl rfl dX3_countCovers_8 ?_
  refine g_icmp_ge C 39 dX3_countCovers_11 (by decide) (fun c2 => ?_) (fun c2 => ?_)
  · replace h := it_t c2 h
    obtain ⟨r3, h, hy⟩ := ex_of h
    rw [hx1 r3 hy] at h
    refine g_iload_n C dX3_countCovers_39 rfl 3 rfl ?_
    obtain rfl := Option.some.inj h
    subst hQ
    exact g_iret C rfl hr hlk dX3_countCovers_40 [0, 1, 2] rfl (by decide)
  · replace h := it_f c2 h
    refine g_aload_n C dX3_countCovers_14 rfl 0 rfl ?_
    refine g_iload_n C dX3_countCovers_15 rfl 1 rfl ?_
    refine g_aload_n C dX3_countCovers_16 rfl 0 rfl ?_
    refine g_get C 3 21 gin3 0 rfl rfl 3 (by decide) mw_1_114 rfl rfl dX3_countCovers_17 ?_
    refine g_iload C dX3_countCovers_20 4 rfl ?_
    obtain ⟨hi4, h⟩ := ck_of h
    refine g_iald C 2 rfl hi4 dX3_countCovers_22 ?_
    refine g_iload_n C dX3_countCovers_23 rfl 2 rfl ?_
    obtain ⟨r5, hr6, h⟩ := bd_of h
    refine g_callVi C (kX3_isCoverInWay l Z a0 a0_closed a0_ranks a0_numbers a0_sets a0_rankSizes a0_tally o0 p1 ((q3_sets o0) (ix v1.2)) p2 r5 hr6) 0 rfl (ci := 3) rfl rfl myX3_isCoverInWay 71 mw_4_39 rfl [0, 1] [2] [1, 2, 0] (wr := [(a0_sets, .inl (zI Z, 256, .inl (q3_sets o0)))]) rfl rfl (by decide) (by decide) (by decide) [(a0, .inr (3, [.ref a0_closed, .ref a0_ranks, .ref a0_numbers, .ref a0_sets, .ref a0_rankSizes, .int (q3_size o0), .ref a0_tally, .int (q3_points o0), .int (q3_all o0)])), (a0_closed, .inl (zI Z, 256, .inl (q3_closed o0))), (a0_sets, .inl (zI Z, 256, .inl (q3_sets o0)))] rfl (by decide) (Nat.le_of_ble_eq_true rfl) (by rw [hR]; exact Nat.le_of_ble_eq_true rfl) (by rw [hR]; exact Nat.le_of_ble_eq_true rfl) ⟨by rw [hR]; exact Nat.le_of_ble_eq_true rfl, by rw [hR]; exact Nat.le_of_ble_eq_true rfl⟩ rfl dX3_countCovers_24 ?_
    refine g_if_eq C 33 dX3_countCovers_27 (by decide) (fun c7 => ?_) (fun c7 => ?_)
    · replace h := it_t c7 h
      refine g_iinc C (v1.2 + 1) dX3_countCovers_33 4 rfl rfl (by decide) [(4, .int (v1.2 + 1)), (0, .ref a0), (1, .int p1), (2, .int p2), (3, .int v1.1)] rfl ?_
      refine g_goto C 5 dX3_countCovers_36 (by decide) ?_
      refine g_lv [1, 2, 3, 4, 0] [(0, .ref a0), (1, .int p1), (2, .int p2), (3, .int v1.1), (4, .int (v1.2 + 1))] rfl ?_
      exact hk1 (v1.1, (v1.2 + 1)) (Option.some.inj h).symm
    · replace h := it_f c7 h
      refine g_iinc C (v1.1 + 1) dX3_countCovers_30 3 rfl rfl (by decide) [(3, .int (v1.1 + 1)), (0, .ref a0), (1, .int p1), (2, .int p2), (4, .int v1.2)] rfl ?_
      refine g_iinc C (v1.2 + 1) dX3_countCovers_33 4 rfl rfl (by decide) [(4, .int (v1.2 + 1)), (3, .int (v1.1 + 1)), (0, .ref a0), (1, .int p1), (2, .int p2)] rfl ?_
      refine g_goto C 5 dX3_countCovers_36 (by decide) ?_
      refine g_lv [2, 3, 4, 1, 0] [(0, .ref a0), (1, .int p1), (2, .int p2), (3, .int (v1.1 + 1)), (4, .int (v1.2 + 1))] rfl ?_
      exact hk1 ((v1.1 + 1), (v1.2 + 1)) (Option.some.inj h).symm
def fX3_coverAt_L6 (o0 : OX3) (p1 : Int32) (p2 : Int32) (p3 : Int32) (v1 : Int32 × Int32) : Option ((Int32 × Int32) ⊕ (Int32)) :=
  if (q3_size o0) ≤ v1.2 then (ex (some (-1)))
  else (ck (okI v1.2 256) ((fX3_isCoverInWay o0 p1 ((q3_sets o0) (ix v1.2)) p2).bind fun r5 =>
  (if r5 = 0 then (some (.inl (v1.1, (v1.2 + 1))))
  else (if v1.1 = p3 then (ex (some v1.2))
  else (some (.inl ((v1.1 + 1), (v1.2 + 1))))))))
def fX3_coverAt (o0 : OX3) (p1 : Int32) (p2 : Int32) (p3 : Int32) : Option (Int32) :=
  lp (fX3_coverAt_L6 o0 p1 p2 p3) lpN (0, 0)
theorem myX3_coverAt : MYv yX3_coverAt cX3_coverAt 6 (some .int) 3 := ⟨mw_4_168, mw_4_169, mw_4_170, mw_1_5, ⟨by decide +kernel, by decide +kernel⟩, by decide +kernel⟩
set_option maxRecDepth 100000 in
set_option maxHeartbeats 4000000 in
theorem kX3_coverAt (l : Launch) (Z : GZ) (a0 a0_closed a0_ranks a0_numbers a0_sets a0_rankSizes a0_tally : Nat) (o0 : OX3) (p1 : Int32) (p2 : Int32) (p3 : Int32) (res : Int32) (h : fX3_coverAt o0 p1 p2 p3 = some res) : MI l Z yX3_coverAt cX3_coverAt 6 .int 2 47 [.ref a0, .int p1, .int p2, .int p3] [(a0, .inr (3, [.ref a0_closed, .ref a0_ranks, .ref a0_numbers, .ref a0_sets, .ref a0_rankSizes, .int (q3_size o0), .ref a0_tally, .int (q3_points o0), .int (q3_all o0)])), (a0_closed, .inl (zI Z, 256, .inl (q3_closed o0))), (a0_sets, .inl (zI Z, 256, .inl (q3_sets o0)))] res [(a0, .inr (3, [.ref a0_closed, .ref a0_ranks, .ref a0_numbers, .ref a0_sets, .ref a0_rankSizes, .int (q3_size o0), .ref a0_tally, .int (q3_points o0), .int (q3_all o0)])), (a0_closed, .inl (zI Z, 256, .inl (q3_closed o0))), (a0_sets, .inl (zI Z, 256, .inl (q3_sets o0)))] := by
  refine MI_of (by decide +kernel) (Nat.le_of_ble_eq_true rfl) (fun {p e s m args below meth c} A R hR Q hQ C hr hlk => ?_)
  unfold fX3_coverAt at h
  refine g_lv [0, 1, 2, 3] [(0, .ref a0), (1, .int p1), (2, .int p2), (3, .int p3)] rfl ?_
  refine g_iconst C 0 dX3_coverAt_0 (by decide) ?_
  refine g_istore C dX3_coverAt_1 (by decide) [(4, .int 0), (0, .ref a0), (1, .int p1), (2, .int p2), (3, .int p3)] rfl ?_
  refine g_iconst C 0 dX3_coverAt_3 (by decide) ?_
  refine g_istore C dX3_coverAt_4 (by decide) [(5, .int 0), (4, .int 0), (0, .ref a0), (1, .int p1), (2, .int p2), (3, .int p3)] rfl ?_
  refine g_lv [2, 3, 4, 5, 1, 0] [(0, .ref a0), (1, .int p1), (2, .int p2), (3, .int p3), (4, .int 0), (5, .int 0)] rfl ?_
  refine g_loop (lvf := fun v1 => [(0, .ref a0), (1, .int p1), (2, .int p2), (3, .int p3), (4, .int v1.1), (5, .int v1.2)]) (wsf := fun v1 => [(a0, .inr (3, [.ref a0_closed, .ref a0_ranks, .ref a0_numbers, .ref a0_sets, .ref a0_rankSizes, .int (q3_size o0), .ref a0_tally, .int (q3_points o0), .int (q3_all o0)])), (a0_closed, .inl (zI Z, 256, .inl (q3_closed o0))), (a0_sets, .inl (zI Z, 256, .inl (q3_sets o0)))]) h (fun v1 y1 h hk1 hx1 => ?_)
  refine g_eq (lv1 := [(0, .ref a0), (1, .int p1), (2, .int p2), (3, .int p3), (4, .int v1.1), (5, .int v1.2)]) (st1 := []) (ws1 := [(a0, .inr (3, [.ref a0_closed, .ref a0_ranks, .ref a0_numbers, .ref a0_sets, .ref a0_rankSizes, .int (q3_size o0), .ref a0_tally, .int (q3_points o0), .int (q3_all o0)])), (a0_closed, .inl (zI Z, 256, .inl (q3_closed o0))), (a0_sets, .inl (zI Z, 256, .inl (q3_sets o0)))]) rfl rfl rfl rfl ?_
  unfold fX3_coverAt_L6 at h
  refine g_iload C dX3_coverAt_6 5 rfl ?_
  refine g_aload_n C dX3_coverAt_8 rfl 0 rfl ?_
  refine g_get C 3 27 gin3 0 rfl rfl 5 (by decide) mw_1_118 rfl rfl dX3_coverAt_9 ?_
  refine g_icmp_ge C 49 dX3_coverAt_12 (by decide) (fun c2 => ?_) (fun c2 => ?_)
  · replace h := it_t c2 h
    obtain ⟨r3, h, hy⟩ := ex_of h
    rw [hx1 r3 hy] at h
    refine g_iconst C (-1) dX3_coverAt_49 (by decide) ?_
    obtain rfl := Option.some.inj h
    subst hQ
    exact g_iret C rfl hr hlk dX3_coverAt_50 [0, 1, 2] rfl (by decide)
  · replace h := it_f c2 h
    refine g_aload_n C dX3_coverAt_15 rfl 0 rfl ?_
    refine g_iload_n C dX3_coverAt_16 rfl 1 rfl ?_
    refine g_aload_n C dX3_coverAt_17 rfl 0 rfl ?_
    refine g_get C 3 21 gin3 0 rfl rfl 3 (by decide) mw_1_114 rfl rfl dX3_coverAt_18 ?_
    refine g_iload C dX3_coverAt_21 5 rfl ?_
    obtain ⟨hi4, h⟩ := ck_of h
    refine g_iald C 2 rfl hi4 dX3_coverAt_23 ?_
    refine g_iload_n C dX3_coverAt_24 rfl 2 rfl ?_
    obtain ⟨r5, hr6, h⟩ := bd_of h
    refine g_callVi C (kX3_isCoverInWay l Z a0 a0_closed a0_ranks a0_numbers a0_sets a0_rankSizes a0_tally o0 p1 ((q3_sets o0) (ix v1.2)) p2 r5 hr6) 0 rfl (ci := 3) rfl rfl myX3_isCoverInWay 71 mw_4_39 rfl [0, 1] [2] [1, 2, 0] (wr := [(a0_sets, .inl (zI Z, 256, .inl (q3_sets o0)))]) rfl rfl (by decide) (by decide) (by decide) [(a0, .inr (3, [.ref a0_closed, .ref a0_ranks, .ref a0_numbers, .ref a0_sets, .ref a0_rankSizes, .int (q3_size o0), .ref a0_tally, .int (q3_points o0), .int (q3_all o0)])), (a0_closed, .inl (zI Z, 256, .inl (q3_closed o0))), (a0_sets, .inl (zI Z, 256, .inl (q3_sets o0)))] rfl (by decide) (Nat.le_of_ble_eq_true rfl) (by rw [hR]; exact Nat.le_of_ble_eq_true rfl) (by rw [hR]; exact Nat.le_of_ble_eq_true rfl) ⟨by rw [hR]; exact Nat.le_of_ble_eq_true rfl, by rw [hR]; exact Nat.le_of_ble_eq_true rfl⟩ rfl dX3_coverAt_25 ?_
    refine g_if_eq C 43 dX3_coverAt_28 (by decide) (fun c7 => ?_) (fun c7 => ?_)
    · replace h := it_t c7 h
      refine g_iinc C (v1.2 + 1) dX3_coverAt_43 5 rfl rfl (by decide) [(5, .int (v1.2 + 1)), (0, .ref a0), (1, .int p1), (2, .int p2), (3, .int p3), (4, .int v1.1)] rfl ?_
      refine g_goto C 6 dX3_coverAt_46 (by decide) ?_
      refine g_lv [1, 2, 3, 4, 5, 0] [(0, .ref a0), (1, .int p1), (2, .int p2), (3, .int p3), (4, .int v1.1), (5, .int (v1.2 + 1))] rfl ?_
      exact hk1 (v1.1, (v1.2 + 1)) (Option.some.inj h).symm
    · replace h := it_f c7 h
      refine g_iload C dX3_coverAt_31 4 rfl ?_
      refine g_iload_n C dX3_coverAt_33 rfl 3 rfl ?_
      refine g_icmp_ne C 40 dX3_coverAt_34 (by decide) (fun c8 => ?_) (fun c8 => ?_)
      · replace h := it_f c8 h
        refine g_iinc C (v1.1 + 1) dX3_coverAt_40 4 rfl rfl (by decide) [(4, .int (v1.1 + 1)), (0, .ref a0), (1, .int p1), (2, .int p2), (3, .int p3), (5, .int v1.2)] rfl ?_
        refine g_iinc C (v1.2 + 1) dX3_coverAt_43 5 rfl rfl (by decide) [(5, .int (v1.2 + 1)), (4, .int (v1.1 + 1)), (0, .ref a0), (1, .int p1), (2, .int p2), (3, .int p3)] rfl ?_
        refine g_goto C 6 dX3_coverAt_46 (by decide) ?_
        refine g_lv [2, 3, 4, 5, 1, 0] [(0, .ref a0), (1, .int p1), (2, .int p2), (3, .int p3), (4, .int (v1.1 + 1)), (5, .int (v1.2 + 1))] rfl ?_
        exact hk1 ((v1.1 + 1), (v1.2 + 1)) (Option.some.inj h).symm
      · replace h := it_t c8 h
        obtain ⟨r9, h, hy⟩ := ex_of h
        rw [hx1 r9 hy] at h
        refine g_iload C dX3_coverAt_37 5 rfl ?_
        obtain rfl := Option.some.inj h
        subst hQ
        exact g_iret C rfl hr hlk dX3_coverAt_39 [0, 1, 2] rfl (by decide)
def fX3_coversWithin_L8 (o0 : OX3) (p1 : Int32) (p2 : Int32) (v1 : Int32 × Int32 × Int32) : Option ((Int32 × Int32 × Int32) ⊕ (Int32)) :=
  if (q3_size o0) ≤ v1.2.2 then (ex (some v1.1))
  else (ck (okI v1.2.2 256) ((fX3_isCover o0 p1 ((q3_sets o0) (ix v1.2.2))).bind fun r5 =>
  (if r5 = 0 then (some (.inl (v1.1, v1.2.1, (v1.2.2 + 1))))
  else (ck (okI v1.2.2 256) (if (((q3_sets o0) (ix v1.2.2)) &&& (p2 ^^^ (-1))) = 0 then (some (.inl ((v1.1 ||| (jshl 1 v1.2.1)), (v1.2.1 + 1), (v1.2.2 + 1))))
  else (some (.inl (v1.1, (v1.2.1 + 1), (v1.2.2 + 1)))))))))
def fX3_coversWithin (o0 : OX3) (p1 : Int32) (p2 : Int32) : Option (Int32) :=
  lp (fX3_coversWithin_L8 o0 p1 p2) lpN (0, 0, 0)
theorem myX3_coversWithin : MYv yX3_coversWithin cX3_coversWithin 6 (some .int) 2 := ⟨mw_4_90, mw_4_91, mw_4_92, mw_1_5, ⟨by decide +kernel, by decide +kernel⟩, by decide +kernel⟩
set_option maxRecDepth 100000 in
set_option maxHeartbeats 4000000 in
theorem kX3_coversWithin (l : Launch) (Z : GZ) (a0 a0_closed a0_ranks a0_numbers a0_sets a0_rankSizes a0_tally : Nat) (o0 : OX3) (p1 : Int32) (p2 : Int32) (res : Int32) (h : fX3_coversWithin o0 p1 p2 = some res) : MI l Z yX3_coversWithin cX3_coversWithin 6 .int 1 24 [.ref a0, .int p1, .int p2] [(a0, .inr (3, [.ref a0_closed, .ref a0_ranks, .ref a0_numbers, .ref a0_sets, .ref a0_rankSizes, .int (q3_size o0), .ref a0_tally, .int (q3_points o0), .int (q3_all o0)])), (a0_closed, .inl (zI Z, 256, .inl (q3_closed o0))), (a0_sets, .inl (zI Z, 256, .inl (q3_sets o0)))] res [(a0, .inr (3, [.ref a0_closed, .ref a0_ranks, .ref a0_numbers, .ref a0_sets, .ref a0_rankSizes, .int (q3_size o0), .ref a0_tally, .int (q3_points o0), .int (q3_all o0)])), (a0_closed, .inl (zI Z, 256, .inl (q3_closed o0))), (a0_sets, .inl (zI Z, 256, .inl (q3_sets o0)))] := by
  refine MI_of (by decide +kernel) (Nat.le_of_ble_eq_true rfl) (fun {p e s m args below meth c} A R hR Q hQ C hr hlk => ?_)
  unfold fX3_coversWithin at h
  refine g_lv [0, 1, 2] [(0, .ref a0), (1, .int p1), (2, .int p2)] rfl ?_
  refine g_iconst C 0 dX3_coversWithin_0 (by decide) ?_
  refine g_istore_n C dX3_coversWithin_1 rfl (by decide) [(3, .int 0), (0, .ref a0), (1, .int p1), (2, .int p2)] rfl ?_
  refine g_iconst C 0 dX3_coversWithin_2 (by decide) ?_
  refine g_istore C dX3_coversWithin_3 (by decide) [(4, .int 0), (3, .int 0), (0, .ref a0), (1, .int p1), (2, .int p2)] rfl ?_
  refine g_iconst C 0 dX3_coversWithin_5 (by decide) ?_
  refine g_istore C dX3_coversWithin_6 (by decide) [(5, .int 0), (4, .int 0), (3, .int 0), (0, .ref a0), (1, .int p1), (2, .int p2)] rfl ?_
  refine g_lv [3, 4, 5, 2, 1, 0] [(0, .ref a0), (1, .int p1), (2, .int p2), (3, .int 0), (4, .int 0), (5, .int 0)] rfl ?_
  refine g_loop (lvf := fun v1 => [(0, .ref a0), (1, .int p1), (2, .int p2), (3, .int v1.1), (4, .int v1.2.1), (5, .int v1.2.2)]) (wsf := fun v1 => [(a0, .inr (3, [.ref a0_closed, .ref a0_ranks, .ref a0_numbers, .ref a0_sets, .ref a0_rankSizes, .int (q3_size o0), .ref a0_tally, .int (q3_points o0), .int (q3_all o0)])), (a0_closed, .inl (zI Z, 256, .inl (q3_closed o0))), (a0_sets, .inl (zI Z, 256, .inl (q3_sets o0)))]) h (fun v1 y1 h hk1 hx1 => ?_)
  refine g_eq (lv1 := [(0, .ref a0), (1, .int p1), (2, .int p2), (3, .int v1.1), (4, .int v1.2.1), (5, .int v1.2.2)]) (st1 := []) (ws1 := [(a0, .inr (3, [.ref a0_closed, .ref a0_ranks, .ref a0_numbers, .ref a0_sets, .ref a0_rankSizes, .int (q3_size o0), .ref a0_tally, .int (q3_points o0), .int (q3_all o0)])), (a0_closed, .inl (zI Z, 256, .inl (q3_closed o0))), (a0_sets, .inl (zI Z, 256, .inl (q3_sets o0)))]) rfl rfl rfl rfl ?_
  unfold fX3_coversWithin_L8 at h
  refine g_iload C dX3_coversWithin_8 5 rfl ?_
  refine g_aload_n C dX3_coversWithin_10 rfl 0 rfl ?_
  refine g_get C 3 27 gin3 0 rfl rfl 5 (by decide) mw_1_118 rfl rfl dX3_coversWithin_11 ?_
  refine g_icmp_ge C 62 dX3_coversWithin_14 (by decide) (fun c2 => ?_) (fun c2 => ?_)
  · replace h := it_t c2 h
    obtain ⟨r3, h, hy⟩ := ex_of h
    rw [hx1 r3 hy] at h
    refine g_iload_n C dX3_coversWithin_62 rfl 3 rfl ?_
    obtain rfl := Option.some.inj h
    subst hQ
    exact g_iret C rfl hr hlk dX3_coversWithin_63 [0, 1, 2] rfl (by decide)
  · replace h := it_f c2 h
    refine g_aload_n C dX3_coversWithin_17 rfl 0 rfl ?_
    refine g_iload_n C dX3_coversWithin_18 rfl 1 rfl ?_
    refine g_aload_n C dX3_coversWithin_19 rfl 0 rfl ?_
    refine g_get C 3 21 gin3 0 rfl rfl 3 (by decide) mw_1_114 rfl rfl dX3_coversWithin_20 ?_
    refine g_iload C dX3_coversWithin_23 5 rfl ?_
    obtain ⟨hi4, h⟩ := ck_of h
    refine g_iald C 2 rfl hi4 dX3_coversWithin_25 ?_
    obtain ⟨r5, hr6, h⟩ := bd_of h
    refine g_callVi C (kX3_isCover l Z a0 a0_closed a0_ranks a0_numbers a0_sets a0_rankSizes a0_tally o0 p1 ((q3_sets o0) (ix v1.2.2)) r5 hr6) 0 rfl (ci := 3) rfl rfl myX3_isCover 67 mw_2_180 rfl [0, 1] [2] [1, 2, 0] (wr := [(a0_sets, .inl (zI Z, 256, .inl (q3_sets o0)))]) rfl rfl (by decide) (by decide) (by decide) [(a0, .inr (3, [.ref a0_closed, .ref a0_ranks, .ref a0_numbers, .ref a0_sets, .ref a0_rankSizes, .int (q3_size o0), .ref a0_tally, .int (q3_points o0), .int (q3_all o0)])), (a0_closed, .inl (zI Z, 256, .inl (q3_closed o0))), (a0_sets, .inl (zI Z, 256, .inl (q3_sets o0)))] rfl (by decide) (Nat.le_of_ble_eq_true rfl) (by rw [hR]; exact Nat.le_of_ble_eq_true rfl) (by rw [hR]; exact Nat.le_of_ble_eq_true rfl) ⟨by rw [hR]; exact Nat.le_of_ble_eq_true rfl, by rw [hR]; exact Nat.le_of_ble_eq_true rfl⟩ rfl dX3_coversWithin_26 ?_
    refine g_if_eq C 56 dX3_coversWithin_29 (by decide) (fun c7 => ?_) (fun c7 => ?_)
    · replace h := it_t c7 h
      refine g_iinc C (v1.2.2 + 1) dX3_coversWithin_56 5 rfl rfl (by decide) [(5, .int (v1.2.2 + 1)), (0, .ref a0), (1, .int p1), (2, .int p2), (3, .int v1.1), (4, .int v1.2.1)] rfl ?_
      refine g_goto C 8 dX3_coversWithin_59 (by decide) ?_
      refine g_lv [1, 2, 3, 4, 5, 0] [(0, .ref a0), (1, .int p1), (2, .int p2), (3, .int v1.1), (4, .int v1.2.1), (5, .int (v1.2.2 + 1))] rfl ?_
      exact hk1 (v1.1, v1.2.1, (v1.2.2 + 1)) (Option.some.inj h).symm
    · replace h := it_f c7 h
      refine g_aload_n C dX3_coversWithin_32 rfl 0 rfl ?_
      refine g_get C 3 21 gin3 0 rfl rfl 3 (by decide) mw_1_114 rfl rfl dX3_coversWithin_33 ?_
      refine g_iload C dX3_coversWithin_36 5 rfl ?_
      obtain ⟨hi8, h⟩ := ck_of h
      refine g_iald C 2 rfl hi8 dX3_coversWithin_38 ?_
      refine g_iload_n C dX3_coversWithin_39 rfl 2 rfl ?_
      refine g_iconst C (-1) dX3_coversWithin_40 (by decide) ?_
      refine g_ixor C dX3_coversWithin_41 ?_
      refine g_iand C dX3_coversWithin_42 ?_
      refine g_if_ne C 53 dX3_coversWithin_43 (by decide) (fun c9 => ?_) (fun c9 => ?_)
      · replace h := it_f c9 h
        refine g_iinc C (v1.2.1 + 1) dX3_coversWithin_53 4 rfl rfl (by decide) [(4, .int (v1.2.1 + 1)), (0, .ref a0), (1, .int p1), (2, .int p2), (3, .int v1.1), (5, .int v1.2.2)] rfl ?_
        refine g_iinc C (v1.2.2 + 1) dX3_coversWithin_56 5 rfl rfl (by decide) [(5, .int (v1.2.2 + 1)), (4, .int (v1.2.1 + 1)), (0, .ref a0), (1, .int p1), (2, .int p2), (3, .int v1.1)] rfl ?_
        refine g_goto C 8 dX3_coversWithin_59 (by decide) ?_
        refine g_lv [2, 3, 4, 5, 1, 0] [(0, .ref a0), (1, .int p1), (2, .int p2), (3, .int v1.1), (4, .int (v1.2.1 + 1)), (5, .int (v1.2.2 + 1))] rfl ?_
        exact hk1 (v1.1, (v1.2.1 + 1), (v1.2.2 + 1)) (Option.some.inj h).symm
      · replace h := it_t c9 h
        refine g_iload_n C dX3_coversWithin_46 rfl 3 rfl ?_
        refine g_iconst C 1 dX3_coversWithin_47 (by decide) ?_
        refine g_iload C dX3_coversWithin_48 4 rfl ?_
        refine g_ishl C dX3_coversWithin_50 ?_
        refine g_ior C dX3_coversWithin_51 ?_
        refine g_istore_n C dX3_coversWithin_52 rfl (by decide) [(3, .int (v1.1 ||| (jshl 1 v1.2.1))), (0, .ref a0), (1, .int p1), (2, .int p2), (4, .int v1.2.1), (5, .int v1.2.2)] rfl ?_
        refine g_iinc C (v1.2.1 + 1) dX3_coversWithin_53 4 rfl rfl (by decide) [(4, .int (v1.2.1 + 1)), (3, .int (v1.1 ||| (jshl 1 v1.2.1))), (0, .ref a0), (1, .int p1), (2, .int p2), (5, .int v1.2.2)] rfl ?_
        refine g_iinc C (v1.2.2 + 1) dX3_coversWithin_56 5 rfl rfl (by decide) [(5, .int (v1.2.2 + 1)), (4, .int (v1.2.1 + 1)), (3, .int (v1.1 ||| (jshl 1 v1.2.1))), (0, .ref a0), (1, .int p1), (2, .int p2)] rfl ?_
        refine g_goto C 8 dX3_coversWithin_59 (by decide) ?_
        refine g_lv [3, 4, 5, 2, 1, 0] [(0, .ref a0), (1, .int p1), (2, .int p2), (3, .int (v1.1 ||| (jshl 1 v1.2.1))), (4, .int (v1.2.1 + 1)), (5, .int (v1.2.2 + 1))] rfl ?_
        exact hk1 ((v1.1 ||| (jshl 1 v1.2.1)), (v1.2.1 + 1), (v1.2.2 + 1)) (Option.some.inj h).symm
def fX3_partsOf (p0 : Int32) : Option (Int32) :=
  (fJ6_bitCount_0f7a4 p0).bind fun r1 =>
  (some (jshl 1 r1))
theorem myX3_partsOf : MYs yX3_partsOf cX3_partsOf 1 (some .int) 1 := ⟨mw_2_212, mw_2_213, mw_1_5, ⟨by decide +kernel, by decide +kernel⟩, by decide +kernel⟩
set_option maxRecDepth 100000 in
set_option maxHeartbeats 4000000 in
theorem kX3_partsOf (l : Launch) (Z : GZ) (p0 : Int32) (res : Int32) (h : fX3_partsOf p0 = some res) : MI l Z yX3_partsOf cX3_partsOf 1 .int 1 20 [.int p0] [] res [] := by
  refine MI_of (by decide +kernel) (Nat.le_of_ble_eq_true rfl) (fun {p e s m args below meth c} A R hR Q hQ C hr hlk => ?_)
  unfold fX3_partsOf at h
  refine g_lv [0] [(0, .int p0)] rfl ?_
  refine g_iconst C 1 dX3_partsOf_0 (by decide) ?_
  refine g_iload_n C dX3_partsOf_1 rfl 0 rfl ?_
  obtain ⟨r1, hr2, h⟩ := bd_of h
  refine g_callSi C (kJ6_bitCount_0f7a4 l Z p0 r1 hr2) myJ6_bitCount_0f7a4 75 mw_2_214 rfl [] [] [] (wr := []) rfl rfl (by decide) (by decide) (by decide) [] rfl (by decide) (Nat.le_of_ble_eq_true rfl) (by rw [hR]; exact Nat.le_of_ble_eq_true rfl) (by rw [hR]; exact Nat.le_of_ble_eq_true rfl) ⟨by rw [hR]; exact Nat.le_of_ble_eq_true rfl, by rw [hR]; exact Nat.le_of_ble_eq_true rfl⟩ rfl dX3_partsOf_2 ?_
  refine g_ishl C dX3_partsOf_5 ?_
  obtain rfl := Option.some.inj h
  subst hQ
  exact g_iret C rfl hr hlk dX3_partsOf_6 [] rfl (by decide)
def fX3_partAfter (p0 : Int32) (p1 : Int32) : Option (Int32) :=
  some ((p0 - p1) &&& p1)
theorem myX3_partAfter : MYs yX3_partAfter cX3_partAfter 2 (some .int) 2 := ⟨mw_2_221, mw_2_222, mw_1_5, ⟨by decide +kernel, by decide +kernel⟩, by decide +kernel⟩
set_option maxRecDepth 100000 in
set_option maxHeartbeats 4000000 in
theorem kX3_partAfter (l : Launch) (Z : GZ) (p0 : Int32) (p1 : Int32) (res : Int32) (h : fX3_partAfter p0 p1 = some res) : MI l Z yX3_partAfter cX3_partAfter 2 .int 0 0 [.int p0, .int p1] [] res [] := by
  refine MI_of (by decide +kernel) (Nat.le_of_ble_eq_true rfl) (fun {p e s m args below meth c} A R hR Q hQ C hr hlk => ?_)
  unfold fX3_partAfter at h
  refine g_lv [0, 1] [(0, .int p0), (1, .int p1)] rfl ?_
  refine g_iload_n C dX3_partAfter_0 rfl 0 rfl ?_
  refine g_iload_n C dX3_partAfter_1 rfl 1 rfl ?_
  refine g_isub C dX3_partAfter_2 ?_
  refine g_iload_n C dX3_partAfter_3 rfl 1 rfl ?_
  refine g_iand C dX3_partAfter_4 ?_
  obtain rfl := Option.some.inj h
  subst hQ
  exact g_iret C rfl hr hlk dX3_partAfter_5 [] rfl (by decide)
def fX3_countBetween_J52 (p1 : Int32) (p2 : Int32) (v4 : Int32 × Int32 × Int32) (x9 : Int32) : Option ((Int32 × Int32 × Int32) ⊕ (Int32)) :=
  (fX3_partAfter v4.1 (p2 &&& (p1 ^^^ (-1)))).bind fun r10 =>
  (some (.inl (r10, x9, (v4.2.2 + 1))))
def fX3_countBetween_L31 (o0 : OX3) (p1 : Int32) (p2 : Int32) (r2 : Int32) (v4 : Int32 × Int32 × Int32) : Option ((Int32 × Int32 × Int32) ⊕ (Int32)) :=
  if r2 ≤ v4.2.2 then (ex (some v4.2.1))
  else ((fX3_isFace o0 (p1 ||| v4.1)).bind fun r7 =>
  (if r7 = 0 then (fX3_countBetween_J52 p1 p2 v4 v4.2.1)
  else (fX3_countBetween_J52 p1 p2 v4 (v4.2.1 + 1))))
def fX3_countBetween (o0 : OX3) (p1 : Int32) (p2 : Int32) : Option (Int32) :=
  if (p1 &&& (p2 ^^^ (-1))) = 0 then ((fX3_partsOf (p2 &&& (p1 ^^^ (-1)))).bind fun r2 =>
  (lp (fX3_countBetween_L31 o0 p1 p2 r2) lpN (0, 0, 0)))
  else (some 0)
theorem myX3_countBetween : MYv yX3_countBetween cX3_countBetween 8 (some .int) 2 := ⟨mw_2_236, mw_2_237, mw_2_238, mw_1_5, ⟨by decide +kernel, by decide +kernel⟩, by decide +kernel⟩
set_option maxRecDepth 100000 in
set_option maxHeartbeats 4000000 in
theorem kX3_countBetween (l : Launch) (Z : GZ) (a0 a0_closed a0_ranks a0_numbers a0_sets a0_rankSizes a0_tally : Nat) (o0 : OX3) (p1 : Int32) (p2 : Int32) (res : Int32) (h : fX3_countBetween o0 p1 p2 = some res) : MI l Z yX3_countBetween cX3_countBetween 8 .int 2 40 [.ref a0, .int p1, .int p2] [(a0, .inr (3, [.ref a0_closed, .ref a0_ranks, .ref a0_numbers, .ref a0_sets, .ref a0_rankSizes, .int (q3_size o0), .ref a0_tally, .int (q3_points o0), .int (q3_all o0)])), (a0_closed, .inl (zI Z, 256, .inl (q3_closed o0)))] res [(a0, .inr (3, [.ref a0_closed, .ref a0_ranks, .ref a0_numbers, .ref a0_sets, .ref a0_rankSizes, .int (q3_size o0), .ref a0_tally, .int (q3_points o0), .int (q3_all o0)])), (a0_closed, .inl (zI Z, 256, .inl (q3_closed o0)))] := by
  refine MI_of (by decide +kernel) (Nat.le_of_ble_eq_true rfl) (fun {p e s m args below meth c} A R hR Q hQ C hr hlk => ?_)
  unfold fX3_countBetween at h
  refine g_lv [0, 1, 2] [(0, .ref a0), (1, .int p1), (2, .int p2)] rfl ?_
  refine g_iload_n C dX3_countBetween_0 rfl 1 rfl ?_
  refine g_iload_n C dX3_countBetween_1 rfl 2 rfl ?_
  refine g_iconst C (-1) dX3_countBetween_2 (by decide) ?_
  refine g_ixor C dX3_countBetween_3 ?_
  refine g_iand C dX3_countBetween_4 ?_
  refine g_if_eq C 10 dX3_countBetween_5 (by decide) (fun c1 => ?_) (fun c1 => ?_)
  · replace h := it_t c1 h
    refine g_iload_n C dX3_countBetween_10 rfl 2 rfl ?_
    refine g_iload_n C dX3_countBetween_11 rfl 1 rfl ?_
    refine g_iconst C (-1) dX3_countBetween_12 (by decide) ?_
    refine g_ixor C dX3_countBetween_13 ?_
    refine g_iand C dX3_countBetween_14 ?_
    refine g_istore_n C dX3_countBetween_15 rfl (by decide) [(3, .int (p2 &&& (p1 ^^^ (-1)))), (0, .ref a0), (1, .int p1), (2, .int p2)] rfl ?_
    refine g_iload_n C dX3_countBetween_16 rfl 0 rfl ?_
    obtain ⟨r2, hr3, h⟩ := bd_of h
    refine g_callSi C (kX3_partsOf l Z (p2 &&& (p1 ^^^ (-1))) r2 hr3) myX3_partsOf 80 mw_2_211 rfl [] [0, 1] [0, 1] (wr := [(a0, .inr (3, [.ref a0_closed, .ref a0_ranks, .ref a0_numbers, .ref a0_sets, .ref a0_rankSizes, .int (q3_size o0), .ref a0_tally, .int (q3_points o0), .int (q3_all o0)])), (a0_closed, .inl (zI Z, 256, .inl (q3_closed o0)))]) rfl rfl (by decide) (by decide) (by decide) [(a0, .inr (3, [.ref a0_closed, .ref a0_ranks, .ref a0_numbers, .ref a0_sets, .ref a0_rankSizes, .int (q3_size o0), .ref a0_tally, .int (q3_points o0), .int (q3_all o0)])), (a0_closed, .inl (zI Z, 256, .inl (q3_closed o0)))] rfl (by decide) (Nat.le_of_ble_eq_true rfl) (by rw [hR]; exact Nat.le_of_ble_eq_true rfl) (by rw [hR]; exact Nat.le_of_ble_eq_true rfl) ⟨by rw [hR]; exact Nat.le_of_ble_eq_true rfl, by rw [hR]; exact Nat.le_of_ble_eq_true rfl⟩ rfl dX3_countBetween_17 ?_
    refine g_istore C dX3_countBetween_20 (by decide) [(4, .int r2), (3, .int (p2 &&& (p1 ^^^ (-1)))), (0, .ref a0), (1, .int p1), (2, .int p2)] rfl ?_
    refine g_iconst C 0 dX3_countBetween_22 (by decide) ?_
    refine g_istore C dX3_countBetween_23 (by decide) [(5, .int 0), (4, .int r2), (3, .int (p2 &&& (p1 ^^^ (-1)))), (0, .ref a0), (1, .int p1), (2, .int p2)] rfl ?_
    refine g_iconst C 0 dX3_countBetween_25 (by decide) ?_
    refine g_istore C dX3_countBetween_26 (by decide) [(6, .int 0), (5, .int 0), (4, .int r2), (3, .int (p2 &&& (p1 ^^^ (-1)))), (0, .ref a0), (1, .int p1), (2, .int p2)] rfl ?_
    refine g_iconst C 0 dX3_countBetween_28 (by decide) ?_
    refine g_istore C dX3_countBetween_29 (by decide) [(7, .int 0), (6, .int 0), (5, .int 0), (4, .int r2), (3, .int (p2 &&& (p1 ^^^ (-1)))), (0, .ref a0), (1, .int p1), (2, .int p2)] rfl ?_
    refine g_lv [5, 6, 4, 3, 2, 1, 0] [(0, .ref a0), (1, .int p1), (3, .int (p2 &&& (p1 ^^^ (-1)))), (4, .int r2), (5, .int 0), (6, .int 0), (7, .int 0)] rfl ?_
    refine g_loop (lvf := fun v4 => [(0, .ref a0), (1, .int p1), (3, .int (p2 &&& (p1 ^^^ (-1)))), (4, .int r2), (5, .int v4.1), (6, .int v4.2.1), (7, .int v4.2.2)]) (wsf := fun v4 => [(a0, .inr (3, [.ref a0_closed, .ref a0_ranks, .ref a0_numbers, .ref a0_sets, .ref a0_rankSizes, .int (q3_size o0), .ref a0_tally, .int (q3_points o0), .int (q3_all o0)])), (a0_closed, .inl (zI Z, 256, .inl (q3_closed o0)))]) h (fun v4 y1 h hk1 hx1 => ?_)
    refine g_eq (lv1 := [(0, .ref a0), (1, .int p1), (3, .int (p2 &&& (p1 ^^^ (-1)))), (4, .int r2), (5, .int v4.1), (6, .int v4.2.1), (7, .int v4.2.2)]) (st1 := []) (ws1 := [(a0, .inr (3, [.ref a0_closed, .ref a0_ranks, .ref a0_numbers, .ref a0_sets, .ref a0_rankSizes, .int (q3_size o0), .ref a0_tally, .int (q3_points o0), .int (q3_all o0)])), (a0_closed, .inl (zI Z, 256, .inl (q3_closed o0)))]) rfl rfl rfl rfl ?_
    unfold fX3_countBetween_L31 at h
    refine g_iload C dX3_countBetween_31 6 rfl ?_
    refine g_iload C dX3_countBetween_33 3 rfl ?_
    refine g_icmp_ge C 66 dX3_countBetween_35 (by decide) (fun c5 => ?_) (fun c5 => ?_)
    · replace h := it_t c5 h
      obtain ⟨r6, h, hy⟩ := ex_of h
      rw [hx1 r6 hy] at h
      refine g_iload C dX3_countBetween_66 5 rfl ?_
      obtain rfl := Option.some.inj h
      subst hQ
      exact g_iret C rfl hr hlk dX3_countBetween_68 [0, 1] rfl (by decide)
    · replace h := it_f c5 h
      refine g_aload_n C dX3_countBetween_38 rfl 0 rfl ?_
      refine g_iload_n C dX3_countBetween_39 rfl 1 rfl ?_
      refine g_iload C dX3_countBetween_40 4 rfl ?_
      refine g_ior C dX3_countBetween_42 ?_
      obtain ⟨r7, hr8, h⟩ := bd_of h
      refine g_callVi C (kX3_isFace l Z a0 a0_closed a0_ranks a0_numbers a0_sets a0_rankSizes a0_tally o0 (p1 ||| v4.1) r7 hr8) 0 rfl (ci := 3) rfl rfl myX3_isFace 57 mw_1_208 rfl [0, 1] [] [0, 1] (wr := []) rfl rfl (by decide) (by decide) (by decide) [(a0, .inr (3, [.ref a0_closed, .ref a0_ranks, .ref a0_numbers, .ref a0_sets, .ref a0_rankSizes, .int (q3_size o0), .ref a0_tally, .int (q3_points o0), .int (q3_all o0)])), (a0_closed, .inl (zI Z, 256, .inl (q3_closed o0)))] rfl (by decide) (Nat.le_of_ble_eq_true rfl) (by rw [hR]; exact Nat.le_of_ble_eq_true rfl) (by rw [hR]; exact Nat.le_of_ble_eq_true rfl) ⟨by rw [hR]; exact Nat.le_of_ble_eq_true rfl, by rw [hR]; exact Nat.le_of_ble_eq_true rfl⟩ rfl dX3_countBetween_43 ?_
      have hj52 : ∀ (x9 : Int32), fX3_countBetween_J52 p1 p2 v4 x9 = some y1 → Gw p l e R s m args below meth c 8 Z A Q 0 0 52 [(0, .ref a0), (1, .int p1), (3, .int (p2 &&& (p1 ^^^ (-1)))), (4, .int r2), (5, .int v4.1), (6, .int x9), (7, .int v4.2.2)] [] [(a0, .inr (3, [.ref a0_closed, .ref a0_ranks, .ref a0_numbers, .ref a0_sets, .ref a0_rankSizes, .int (q3_size o0), .ref a0_tally, .int (q3_points o0), .int (q3_all o0)])), (a0_closed, .inl (zI Z, 256, .inl (q3_closed o0)))] := by
        intro x9 h
        unfold fX3_countBetween_J52 at h
        refine g_iload C dX3_countBetween_52 4 rfl ?_
        refine g_iload_n C dX3_countBetween_54 rfl 2 rfl ?_
        obtain ⟨r10, hr11, h⟩ := bd_of h
        refine g_callSi C (kX3_partAfter l Z v4.1 (p2 &&& (p1 ^^^ (-1))) r10 hr11) myX3_partAfter 83 mw_2_220 rfl [] [0, 1] [0, 1] (wr := [(a0, .inr (3, [.ref a0_closed, .ref a0_ranks, .ref a0_numbers, .ref a0_sets, .ref a0_rankSizes, .int (q3_size o0), .ref a0_tally, .int (q3_points o0), .int (q3_all o0)])), (a0_closed, .inl (zI Z, 256, .inl (q3_closed o0)))]) rfl rfl (by decide) (by decide) (by decide) [(a0, .inr (3, [.ref a0_closed, .ref a0_ranks, .ref a0_numbers, .ref a0_sets, .ref a0_rankSizes, .int (q3_size o0), .ref a0_tally, .int (q3_points o0), .int (q3_all o0)])), (a0_closed, .inl (zI Z, 256, .inl (q3_closed o0)))] rfl (by decide) (Nat.le_of_ble_eq_true rfl) (by rw [hR]; exact Nat.le_of_ble_eq_true rfl) (by rw [hR]; exact Nat.le_of_ble_eq_true rfl) ⟨by rw [hR]; exact Nat.le_of_ble_eq_true rfl, by rw [hR]; exact Nat.le_of_ble_eq_true rfl⟩ rfl dX3_countBetween_55 ?_
        refine g_istore C dX3_countBetween_58 (by decide) [(5, .int r10), (0, .ref a0), (1, .int p1), (3, .int (p2 &&& (p1 ^^^ (-1)))), (4, .int r2), (6, .int x9), (7, .int v4.2.2)] rfl ?_
        refine g_iinc C (v4.2.2 + 1) dX3_countBetween_60 6 rfl rfl (by decide) [(7, .int (v4.2.2 + 1)), (5, .int r10), (0, .ref a0), (1, .int p1), (3, .int (p2 &&& (p1 ^^^ (-1)))), (4, .int r2), (6, .int x9)] rfl ?_
        refine g_goto C 31 dX3_countBetween_63 (by decide) ?_
        refine g_lv [2, 3, 4, 5, 1, 6, 0] [(0, .ref a0), (1, .int p1), (3, .int (p2 &&& (p1 ^^^ (-1)))), (4, .int r2), (5, .int r10), (6, .int x9), (7, .int (v4.2.2 + 1))] rfl ?_
        exact hk1 (r10, x9, (v4.2.2 + 1)) (Option.some.inj h).symm
      refine g_if_eq C 52 dX3_countBetween_46 (by decide) (fun c12 => ?_) (fun c12 => ?_)
      · replace h := it_t c12 h
        exact hj52 v4.2.1 h
      · replace h := it_f c12 h
        refine g_iinc C (v4.2.1 + 1) dX3_countBetween_49 5 rfl rfl (by decide) [(6, .int (v4.2.1 + 1)), (0, .ref a0), (1, .int p1), (3, .int (p2 &&& (p1 ^^^ (-1)))), (4, .int r2), (5, .int v4.1), (7, .int v4.2.2)] rfl ?_
        refine g_lv [1, 2, 3, 4, 5, 0, 6] [(0, .ref a0), (1, .int p1), (3, .int (p2 &&& (p1 ^^^ (-1)))), (4, .int r2), (5, .int v4.1), (6, .int (v4.2.1 + 1)), (7, .int v4.2.2)] rfl ?_
        exact hj52 (v4.2.1 + 1) h
  · replace h := it_f c1 h
    refine g_iconst C 0 dX3_countBetween_8 (by decide) ?_
    obtain rfl := Option.some.inj h
    subst hQ
    exact g_iret C rfl hr hlk dX3_countBetween_9 [0, 1] rfl (by decide)
def fX3_clearTally_L18 (o0 : OX3) (p1 : Int32) (p2 : Int32) (r1 : Int32) (v3 : Int32 × Int32 × (Nat → Int32)) : Option ((Int32 × Int32 × (Nat → Int32)) ⊕ (OX3)) :=
  if r1 ≤ v3.2.1 then (ex (some (s3_tally o0 v3.2.2)))
  else (ck (okI (p1 ||| v3.1) 256) ((fX3_partAfter v3.1 (p2 &&& (p1 ^^^ (-1)))).bind fun r7 =>
  (some (.inl (r7, (v3.2.1 + 1), (upd v3.2.2 (ix (p1 ||| v3.1)) 0))))))
def fX3_clearTally (o0 : OX3) (p1 : Int32) (p2 : Int32) : Option (OX3) :=
  (fX3_partsOf (p2 &&& (p1 ^^^ (-1)))).bind fun r1 =>
  (lp (fX3_clearTally_L18 o0 p1 p2 r1) lpN (0, 0, (q3_tally o0)))
theorem myX3_clearTally : MYv yX3_clearTally cX3_clearTally 7 none 2 := ⟨mw_2_209, ms_10, mw_2_210, mw_1_5, ⟨by decide +kernel, by decide +kernel⟩, by decide +kernel⟩
set_option maxRecDepth 100000 in
set_option maxHeartbeats 4000000 in
theorem kX3_clearTally (l : Launch) (Z : GZ) (a0 a0_closed a0_ranks a0_numbers a0_sets a0_rankSizes a0_tally : Nat) (o0 : OX3) (p1 : Int32) (p2 : Int32) (res : OX3) (h : fX3_clearTally o0 p1 p2 = some res) : MV l Z yX3_clearTally cX3_clearTally 7 2 40 [.ref a0, .int p1, .int p2] [(a0, .inr (3, [.ref a0_closed, .ref a0_ranks, .ref a0_numbers, .ref a0_sets, .ref a0_rankSizes, .int (q3_size o0), .ref a0_tally, .int (q3_points o0), .int (q3_all o0)])), (a0_tally, .inl (zI Z, 256, .inl (q3_tally o0)))] [(a0, .inr (3, [.ref a0_closed, .ref a0_ranks, .ref a0_numbers, .ref a0_sets, .ref a0_rankSizes, .int (q3_size o0), .ref a0_tally, .int (q3_points o0), .int (q3_all o0)])), (a0_tally, .inl (zI Z, 256, .inl (q3_tally res)))] := by
  refine MV_of (by decide +kernel) (Nat.le_of_ble_eq_true rfl) (fun {p e s m args below meth c} A R hR Q hQ C hr hlk => ?_)
  unfold fX3_clearTally at h
  refine g_lv [0, 1, 2] [(0, .ref a0), (1, .int p1), (2, .int p2)] rfl ?_
  refine g_iload_n C dX3_clearTally_0 rfl 2 rfl ?_
  refine g_iload_n C dX3_clearTally_1 rfl 1 rfl ?_
  refine g_iconst C (-1) dX3_clearTally_2 (by decide) ?_
  refine g_ixor C dX3_clearTally_3 ?_
  refine g_iand C dX3_clearTally_4 ?_
  refine g_istore_n C dX3_clearTally_5 rfl (by decide) [(3, .int (p2 &&& (p1 ^^^ (-1)))), (0, .ref a0), (1, .int p1), (2, .int p2)] rfl ?_
  refine g_iload_n C dX3_clearTally_6 rfl 0 rfl ?_
  obtain ⟨r1, hr2, h⟩ := bd_of h
  refine g_callSi C (kX3_partsOf l Z (p2 &&& (p1 ^^^ (-1))) r1 hr2) myX3_partsOf 80 mw_2_211 rfl [] [0, 1] [0, 1] (wr := [(a0, .inr (3, [.ref a0_closed, .ref a0_ranks, .ref a0_numbers, .ref a0_sets, .ref a0_rankSizes, .int (q3_size o0), .ref a0_tally, .int (q3_points o0), .int (q3_all o0)])), (a0_tally, .inl (zI Z, 256, .inl (q3_tally o0)))]) rfl rfl (by decide) (by decide) (by decide) [(a0, .inr (3, [.ref a0_closed, .ref a0_ranks, .ref a0_numbers, .ref a0_sets, .ref a0_rankSizes, .int (q3_size o0), .ref a0_tally, .int (q3_points o0), .int (q3_all o0)])), (a0_tally, .inl (zI Z, 256, .inl (q3_tally o0)))] rfl (by decide) (Nat.le_of_ble_eq_true rfl) (by rw [hR]; exact Nat.le_of_ble_eq_true rfl) (by rw [hR]; exact Nat.le_of_ble_eq_true rfl) ⟨by rw [hR]; exact Nat.le_of_ble_eq_true rfl, by rw [hR]; exact Nat.le_of_ble_eq_true rfl⟩ rfl dX3_clearTally_7 ?_
  refine g_istore C dX3_clearTally_10 (by decide) [(4, .int r1), (3, .int (p2 &&& (p1 ^^^ (-1)))), (0, .ref a0), (1, .int p1), (2, .int p2)] rfl ?_
  refine g_iconst C 0 dX3_clearTally_12 (by decide) ?_
  refine g_istore C dX3_clearTally_13 (by decide) [(5, .int 0), (4, .int r1), (3, .int (p2 &&& (p1 ^^^ (-1)))), (0, .ref a0), (1, .int p1), (2, .int p2)] rfl ?_
  refine g_iconst C 0 dX3_clearTally_15 (by decide) ?_
  refine g_istore C dX3_clearTally_16 (by decide) [(6, .int 0), (5, .int 0), (4, .int r1), (3, .int (p2 &&& (p1 ^^^ (-1)))), (0, .ref a0), (1, .int p1), (2, .int p2)] rfl ?_
  refine g_lv [4, 5, 3, 2, 1, 0] [(0, .ref a0), (1, .int p1), (3, .int (p2 &&& (p1 ^^^ (-1)))), (4, .int r1), (5, .int 0), (6, .int 0)] rfl ?_
  refine g_loop (lvf := fun v3 => [(0, .ref a0), (1, .int p1), (3, .int (p2 &&& (p1 ^^^ (-1)))), (4, .int r1), (5, .int v3.1), (6, .int v3.2.1)]) (wsf := fun v3 => [(a0, .inr (3, [.ref a0_closed, .ref a0_ranks, .ref a0_numbers, .ref a0_sets, .ref a0_rankSizes, .int (q3_size o0), .ref a0_tally, .int (q3_points o0), .int (q3_all o0)])), (a0_tally, .inl (zI Z, 256, .inl v3.2.2))]) h (fun v3 y1 h hk1 hx1 => ?_)
  refine g_eq (lv1 := [(0, .ref a0), (1, .int p1), (3, .int (p2 &&& (p1 ^^^ (-1)))), (4, .int r1), (5, .int v3.1), (6, .int v3.2.1)]) (st1 := []) (ws1 := [(a0, .inr (3, [.ref a0_closed, .ref a0_ranks, .ref a0_numbers, .ref a0_sets, .ref a0_rankSizes, .int (q3_size o0), .ref a0_tally, .int (q3_points o0), .int (q3_all o0)])), (a0_tally, .inl (zI Z, 256, .inl v3.2.2))]) rfl rfl rfl rfl ?_
  unfold fX3_clearTally_L18 at h
  refine g_iload C dX3_clearTally_18 5 rfl ?_
  refine g_iload C dX3_clearTally_20 3 rfl ?_
  refine g_icmp_ge C 49 dX3_clearTally_22 (by decide) (fun c4 => ?_) (fun c4 => ?_)
  · replace h := it_t c4 h
    obtain ⟨r5, h, hy⟩ := ex_of h
    rw [hx1 r5 hy] at h
    obtain rfl := Option.some.inj h
    subst hQ
    exact g_vret C hr hlk dX3_clearTally_49 [0, 1] rfl (by decide)
  · replace h := it_f c4 h
    refine g_aload_n C dX3_clearTally_25 rfl 0 rfl ?_
    refine g_get C 3 31 gin3 0 rfl rfl 6 (by decide) mw_1_120 rfl rfl dX3_clearTally_26 ?_
    refine g_iload_n C dX3_clearTally_29 rfl 1 rfl ?_
    refine g_iload C dX3_clearTally_30 4 rfl ?_
    refine g_ior C dX3_clearTally_32 ?_
    refine g_iconst C 0 dX3_clearTally_33 (by decide) ?_
    obtain ⟨hi6, h⟩ := ck_of h
    refine g_iast C 1 rfl hi6 [(a0, .inr (3, [.ref a0_closed, .ref a0_ranks, .ref a0_numbers, .ref a0_sets, .ref a0_rankSizes, .int (q3_size o0), .ref a0_tally, .int (q3_points o0), .int (q3_all o0)])), (a0_tally, .inl (zI Z, 256, .inl (upd v3.2.2 (ix (p1 ||| v3.1)) 0)))] rfl dX3_clearTally_34 ?_
    refine g_iload C dX3_clearTally_35 4 rfl ?_
    refine g_iload_n C dX3_clearTally_37 rfl 2 rfl ?_
    obtain ⟨r7, hr8, h⟩ := bd_of h
    refine g_callSi C (kX3_partAfter l Z v3.1 (p2 &&& (p1 ^^^ (-1))) r7 hr8) myX3_partAfter 83 mw_2_220 rfl [] [0, 1] [0, 1] (wr := [(a0, .inr (3, [.ref a0_closed, .ref a0_ranks, .ref a0_numbers, .ref a0_sets, .ref a0_rankSizes, .int (q3_size o0), .ref a0_tally, .int (q3_points o0), .int (q3_all o0)])), (a0_tally, .inl (zI Z, 256, .inl (upd v3.2.2 (ix (p1 ||| v3.1)) 0)))]) rfl rfl (by decide) (by decide) (by decide) [(a0, .inr (3, [.ref a0_closed, .ref a0_ranks, .ref a0_numbers, .ref a0_sets, .ref a0_rankSizes, .int (q3_size o0), .ref a0_tally, .int (q3_points o0), .int (q3_all o0)])), (a0_tally, .inl (zI Z, 256, .inl (upd v3.2.2 (ix (p1 ||| v3.1)) 0)))] rfl (by decide) (Nat.le_of_ble_eq_true rfl) (by rw [hR]; exact Nat.le_of_ble_eq_true rfl) (by rw [hR]; exact Nat.le_of_ble_eq_true rfl) ⟨by rw [hR]; exact Nat.le_of_ble_eq_true rfl, by rw [hR]; exact Nat.le_of_ble_eq_true rfl⟩ rfl dX3_clearTally_38 ?_
    refine g_istore C dX3_clearTally_41 (by decide) [(5, .int r7), (0, .ref a0), (1, .int p1), (3, .int (p2 &&& (p1 ^^^ (-1)))), (4, .int r1), (6, .int v3.2.1)] rfl ?_
    refine g_iinc C (v3.2.1 + 1) dX3_clearTally_43 5 rfl rfl (by decide) [(6, .int (v3.2.1 + 1)), (5, .int r7), (0, .ref a0), (1, .int p1), (3, .int (p2 &&& (p1 ^^^ (-1)))), (4, .int r1)] rfl ?_
    refine g_goto C 18 dX3_clearTally_46 (by decide) ?_
    refine g_lv [2, 3, 4, 5, 1, 0] [(0, .ref a0), (1, .int p1), (3, .int (p2 &&& (p1 ^^^ (-1)))), (4, .int r1), (5, .int r7), (6, .int (v3.2.1 + 1))] rfl ?_
    exact hk1 (r7, (v3.2.1 + 1), (upd v3.2.2 (ix (p1 ||| v3.1)) 0)) (Option.some.inj h).symm
def fX3_passOn_J29 (p1 : Int32) (v1 : Int32 × (Nat → Int32)) (x4 : Int32) : Option ((Int32 × (Nat → Int32)) ⊕ (OX3)) :=
  if x4 = (-1) then (some (.inl ((v1.1 + 1), v1.2)))
  else (ck (okI x4 256) (ck (okI p1 256) (ck (okI x4 256) (some (.inl ((v1.1 + 1), (upd v1.2 (ix x4) ((v1.2 (ix x4)) + (v1.2 (ix p1))))))))))
def fX3_passOn_L2 (o0 : OX3) (p1 : Int32) (p2 : Int32) (v1 : Int32 × (Nat → Int32)) : Option ((Int32 × (Nat → Int32)) ⊕ (OX3)) :=
  if (q3_points o0) ≤ v1.1 then (ex (some (s3_tally o0 v1.2)))
  else (if ((jshr p2 v1.1) &&& 1) = 1 then ((fX3_coverBy (s3_tally o0 v1.2) p1 v1.1).bind fun r10 =>
  (fX3_passOn_J29 p1 v1 r10))
  else (fX3_passOn_J29 p1 v1 (-1)))
def fX3_passOn (o0 : OX3) (p1 : Int32) (p2 : Int32) : Option (OX3) :=
  lp (fX3_passOn_L2 o0 p1 p2) lpN (0, (q3_tally o0))
theorem myX3_passOn : MYv yX3_passOn cX3_passOn 5 none 2 := ⟨mw_3_19, ms_12, mw_3_20, mw_1_5, ⟨by decide +kernel, by decide +kernel⟩, by decide +kernel⟩
set_option maxRecDepth 100000 in
set_option maxHeartbeats 4000000 in
theorem kX3_passOn (l : Launch) (Z : GZ) (a0 a0_closed a0_ranks a0_numbers a0_sets a0_rankSizes a0_tally : Nat) (o0 : OX3) (p1 : Int32) (p2 : Int32) (res : OX3) (h : fX3_passOn o0 p1 p2 = some res) : MV l Z yX3_passOn cX3_passOn 5 2 49 [.ref a0, .int p1, .int p2] [(a0, .inr (3, [.ref a0_closed, .ref a0_ranks, .ref a0_numbers, .ref a0_sets, .ref a0_rankSizes, .int (q3_size o0), .ref a0_tally, .int (q3_points o0), .int (q3_all o0)])), (a0_closed, .inl (zI Z, 256, .inl (q3_closed o0))), (a0_tally, .inl (zI Z, 256, .inl (q3_tally o0)))] [(a0, .inr (3, [.ref a0_closed, .ref a0_ranks, .ref a0_numbers, .ref a0_sets, .ref a0_rankSizes, .int (q3_size o0), .ref a0_tally, .int (q3_points o0), .int (q3_all o0)])), (a0_closed, .inl (zI Z, 256, .inl (q3_closed o0))), (a0_tally, .inl (zI Z, 256, .inl (q3_tally res)))] := by
  refine MV_of (by decide +kernel) (Nat.le_of_ble_eq_true rfl) (fun {p e s m args below meth c} A R hR Q hQ C hr hlk => ?_)
  unfold fX3_passOn at h
  refine g_lv [0, 1, 2] [(0, .ref a0), (1, .int p1), (2, .int p2)] rfl ?_
  refine g_iconst C 0 dX3_passOn_0 (by decide) ?_
  refine g_istore_n C dX3_passOn_1 rfl (by decide) [(3, .int 0), (0, .ref a0), (1, .int p1), (2, .int p2)] rfl ?_
  refine g_lv [1, 2, 3, 0] [(0, .ref a0), (1, .int p1), (2, .int p2), (3, .int 0)] rfl ?_
  refine g_loop (lvf := fun v1 => [(0, .ref a0), (1, .int p1), (2, .int p2), (3, .int v1.1)]) (wsf := fun v1 => [(a0, .inr (3, [.ref a0_closed, .ref a0_ranks, .ref a0_numbers, .ref a0_sets, .ref a0_rankSizes, .int (q3_size o0), .ref a0_tally, .int (q3_points o0), .int (q3_all o0)])), (a0_closed, .inl (zI Z, 256, .inl (q3_closed o0))), (a0_tally, .inl (zI Z, 256, .inl v1.2))]) h (fun v1 y1 h hk1 hx1 => ?_)
  refine g_eq (lv1 := [(0, .ref a0), (1, .int p1), (2, .int p2), (3, .int v1.1)]) (st1 := []) (ws1 := [(a0, .inr (3, [.ref a0_closed, .ref a0_ranks, .ref a0_numbers, .ref a0_sets, .ref a0_rankSizes, .int (q3_size o0), .ref a0_tally, .int (q3_points o0), .int (q3_all o0)])), (a0_closed, .inl (zI Z, 256, .inl (q3_closed o0))), (a0_tally, .inl (zI Z, 256, .inl v1.2))]) rfl rfl rfl rfl ?_
  unfold fX3_passOn_L2 at h
  refine g_iload_n C dX3_passOn_2 rfl 3 rfl ?_
  refine g_aload_n C dX3_passOn_3 rfl 0 rfl ?_
  refine g_get C 3 34 gin3 0 rfl rfl 7 (by decide) mw_1_121 rfl rfl dX3_passOn_4 ?_
  refine g_icmp_ge C 59 dX3_passOn_7 (by decide) (fun c2 => ?_) (fun c2 => ?_)
  · replace h := it_t c2 h
    obtain ⟨r3, h, hy⟩ := ex_of h
    rw [hx1 r3 hy] at h
    obtain rfl := Option.some.inj h
    subst hQ
    exact g_vret C hr hlk dX3_passOn_59 [0, 1, 2] rfl (by decide)
  · replace h := it_f c2 h
    refine g_iload_n C dX3_passOn_10 rfl 2 rfl ?_
    refine g_iload_n C dX3_passOn_11 rfl 3 rfl ?_
    refine g_ishr C dX3_passOn_12 ?_
    refine g_iconst C 1 dX3_passOn_13 (by decide) ?_
    refine g_iand C dX3_passOn_14 ?_
    refine g_iconst C 1 dX3_passOn_15 (by decide) ?_
    have hj29 : ∀ (x4 : Int32), fX3_passOn_J29 p1 v1 x4 = some y1 → Gw p l e R s m args below meth c 5 Z A Q 0 0 29 [(0, .ref a0), (1, .int p1), (2, .int p2), (3, .int v1.1)] [.int x4] [(a0, .inr (3, [.ref a0_closed, .ref a0_ranks, .ref a0_numbers, .ref a0_sets, .ref a0_rankSizes, .int (q3_size o0), .ref a0_tally, .int (q3_points o0), .int (q3_all o0)])), (a0_closed, .inl (zI Z, 256, .inl (q3_closed o0))), (a0_tally, .inl (zI Z, 256, .inl v1.2))] := by
      intro x4 h
      unfold fX3_passOn_J29 at h
      refine g_istore C dX3_passOn_29 (by decide) [(4, .int x4), (0, .ref a0), (1, .int p1), (2, .int p2), (3, .int v1.1)] rfl ?_
      refine g_iload C dX3_passOn_31 0 rfl ?_
      refine g_iconst C (-1) dX3_passOn_33 (by decide) ?_
      refine g_icmp_eq C 53 dX3_passOn_34 (by decide) (fun c5 => ?_) (fun c5 => ?_)
      · replace h := it_t c5 h
        refine g_iinc C (v1.1 + 1) dX3_passOn_53 4 rfl rfl (by decide) [(3, .int (v1.1 + 1)), (4, .int x4), (0, .ref a0), (1, .int p1), (2, .int p2)] rfl ?_
        refine g_goto C 2 dX3_passOn_56 (by decide) ?_
        refine g_lv [2, 3, 4, 0] [(0, .ref a0), (1, .int p1), (2, .int p2), (3, .int (v1.1 + 1))] rfl ?_
        exact hk1 ((v1.1 + 1), v1.2) (Option.some.inj h).symm
      · replace h := it_f c5 h
        refine g_aload_n C dX3_passOn_37 rfl 1 rfl ?_
        refine g_get C 3 31 gin3 0 rfl rfl 6 (by decide) mw_1_120 rfl rfl dX3_passOn_38 ?_
        refine g_iload C dX3_passOn_41 0 rfl ?_
        refine g_dup2 C dX3_passOn_43 rfl rfl ?_
        obtain ⟨hi6, h⟩ := ck_of h
        refine g_iald C 2 rfl hi6 dX3_passOn_44 ?_
        refine g_aload_n C dX3_passOn_45 rfl 1 rfl ?_
        refine g_get C 3 31 gin3 0 rfl rfl 6 (by decide) mw_1_120 rfl rfl dX3_passOn_46 ?_
        refine g_iload_n C dX3_passOn_49 rfl 2 rfl ?_
        obtain ⟨hi7, h⟩ := ck_of h
        refine g_iald C 2 rfl hi7 dX3_passOn_50 ?_
        refine g_iadd C dX3_passOn_51 ?_
        obtain ⟨hi8, h⟩ := ck_of h
        refine g_iast C 2 rfl hi8 [(a0, .inr (3, [.ref a0_closed, .ref a0_ranks, .ref a0_numbers, .ref a0_sets, .ref a0_rankSizes, .int (q3_size o0), .ref a0_tally, .int (q3_points o0), .int (q3_all o0)])), (a0_closed, .inl (zI Z, 256, .inl (q3_closed o0))), (a0_tally, .inl (zI Z, 256, .inl (upd v1.2 (ix x4) ((v1.2 (ix x4)) + (v1.2 (ix p1))))))] rfl dX3_passOn_52 ?_
        refine g_iinc C (v1.1 + 1) dX3_passOn_53 4 rfl rfl (by decide) [(3, .int (v1.1 + 1)), (4, .int x4), (0, .ref a0), (1, .int p1), (2, .int p2)] rfl ?_
        refine g_goto C 2 dX3_passOn_56 (by decide) ?_
        refine g_lv [2, 3, 4, 0] [(0, .ref a0), (1, .int p1), (2, .int p2), (3, .int (v1.1 + 1))] rfl ?_
        exact hk1 ((v1.1 + 1), (upd v1.2 (ix x4) ((v1.2 (ix x4)) + (v1.2 (ix p1))))) (Option.some.inj h).symm
    refine g_icmp_ne C 28 dX3_passOn_16 (by decide) (fun c9 => ?_) (fun c9 => ?_)
    · replace h := it_f c9 h
      refine g_iconst C (-1) dX3_passOn_28 (by decide) ?_
      exact hj29 (-1) h
    · replace h := it_t c9 h
      refine g_aload_n C dX3_passOn_19 rfl 0 rfl ?_
      refine g_iload_n C dX3_passOn_20 rfl 1 rfl ?_
      refine g_iload_n C dX3_passOn_21 rfl 3 rfl ?_
      obtain ⟨r10, hr11, h⟩ := bd_of h
      refine g_callVi C (kX3_coverBy l Z a0 a0_closed a0_ranks a0_numbers a0_sets a0_rankSizes a0_tally (s3_tally o0 v1.2) p1 v1.1 r10 hr11) 0 rfl (ci := 3) rfl rfl myX3_coverBy 93 mw_2_176 rfl [0, 1] [2] [1, 2, 0] (wr := [(a0_tally, .inl (zI Z, 256, .inl v1.2))]) rfl rfl (by decide) (by decide) (by decide) [(a0, .inr (3, [.ref a0_closed, .ref a0_ranks, .ref a0_numbers, .ref a0_sets, .ref a0_rankSizes, .int (q3_size o0), .ref a0_tally, .int (q3_points o0), .int (q3_all o0)])), (a0_closed, .inl (zI Z, 256, .inl (q3_closed o0))), (a0_tally, .inl (zI Z, 256, .inl v1.2))] rfl (by decide) (Nat.le_of_ble_eq_true rfl) (by rw [hR]; exact Nat.le_of_ble_eq_true rfl) (by rw [hR]; exact Nat.le_of_ble_eq_true rfl) ⟨by rw [hR]; exact Nat.le_of_ble_eq_true rfl, by rw [hR]; exact Nat.le_of_ble_eq_true rfl⟩ rfl dX3_passOn_22 ?_
      refine g_goto C 29 dX3_passOn_25 (by decide) ?_
      exact hj29 r10 h
def fX3_countChains_J68 (p1 : Int32) (p2 : Int32) (v7 : Int32 × Int32 × (Nat → Int32)) (x13 : Nat → Int32) : Option ((Int32 × Int32 × (Nat → Int32)) ⊕ (Int32 × OX3)) :=
  (fX3_partAfter v7.1 (p2 &&& (p1 ^^^ (-1)))).bind fun r14 =>
  (some (.inl (r14, (v7.2.1 + 1), x13)))
def fX3_countChains_L41 (o0 : OX3) (p1 : Int32) (p2 : Int32) (r5 : Int32) (v7 : Int32 × Int32 × (Nat → Int32)) : Option ((Int32 × Int32 × (Nat → Int32)) ⊕ (Int32 × OX3)) :=
  if r5 ≤ v7.2.1 then (ex (ck (okI p2 256) (some ((v7.2.2 (ix p2)), (s3_tally o0 v7.2.2)))))
  else ((fX3_isFace (s3_tally o0 v7.2.2) (p1 ||| v7.1)).bind fun r11 =>
  (if r11 = 0 then (fX3_countChains_J68 p1 p2 v7 v7.2.2)
  else ((fX3_passOn (s3_tally o0 v7.2.2) (p1 ||| v7.1) p2).bind fun r17 =>
  (fX3_countChains_J68 p1 p2 v7 (q3_tally r17)))))
def fX3_countChains (o0 : OX3) (p1 : Int32) (p2 : Int32) : Option (Int32 × OX3) :=
  if (p1 &&& (p2 ^^^ (-1))) = 0 then ((fX3_clearTally o0 p1 p2).bind fun r2 =>
  (ck (okI p1 256) ((fX3_partsOf (p2 &&& (p1 ^^^ (-1)))).bind fun r5 =>
  (lp (fX3_countChains_L41 o0 p1 p2 r5) lpN (0, 0, (upd (q3_tally r2) (ix p1) 1))))))
  else (some (0, o0))
theorem myX3_countChains : MYv yX3_countChains cX3_countChains 7 (some .int) 2 := ⟨mw_3_14, mw_3_15, mw_3_16, mw_1_5, ⟨by decide +kernel, by decide +kernel⟩, by decide +kernel⟩
set_option maxRecDepth 100000 in
set_option maxHeartbeats 4000000 in
theorem kX3_countChains (l : Launch) (Z : GZ) (a0 a0_closed a0_ranks a0_numbers a0_sets a0_rankSizes a0_tally : Nat) (o0 : OX3) (p1 : Int32) (p2 : Int32) (res : Int32 × OX3) (h : fX3_countChains o0 p1 p2 = some res) : MI l Z yX3_countChains cX3_countChains 7 .int 3 73 [.ref a0, .int p1, .int p2] [(a0, .inr (3, [.ref a0_closed, .ref a0_ranks, .ref a0_numbers, .ref a0_sets, .ref a0_rankSizes, .int (q3_size o0), .ref a0_tally, .int (q3_points o0), .int (q3_all o0)])), (a0_closed, .inl (zI Z, 256, .inl (q3_closed o0))), (a0_tally, .inl (zI Z, 256, .inl (q3_tally o0)))] res.1 [(a0, .inr (3, [.ref a0_closed, .ref a0_ranks, .ref a0_numbers, .ref a0_sets, .ref a0_rankSizes, .int (q3_size o0), .ref a0_tally, .int (q3_points o0), .int (q3_all o0)])), (a0_closed, .inl (zI Z, 256, .inl (q3_closed o0))), (a0_tally, .inl (zI Z, 256, .inl (q3_tally res.2)))] := by
  refine MI_of (by decide +kernel) (Nat.le_of_ble_eq_true rfl) (fun {p e s m args below meth c} A R hR Q hQ C hr hlk => ?_)
  unfold fX3_countChains at h
  refine g_lv [0, 1, 2] [(0, .ref a0), (1, .int p1), (2, .int p2)] rfl ?_
  refine g_iload_n C dX3_countChains_0 rfl 1 rfl ?_
  refine g_iload_n C dX3_countChains_1 rfl 2 rfl ?_
  refine g_iconst C (-1) dX3_countChains_2 (by decide) ?_
  refine g_ixor C dX3_countChains_3 ?_
  refine g_iand C dX3_countChains_4 ?_
  refine g_if_eq C 10 dX3_countChains_5 (by decide) (fun c1 => ?_) (fun c1 => ?_)
  · replace h := it_t c1 h
    refine g_aload_n C dX3_countChains_10 rfl 0 rfl ?_
    refine g_iload_n C dX3_countChains_11 rfl 1 rfl ?_
    refine g_iload_n C dX3_countChains_12 rfl 2 rfl ?_
    obtain ⟨r2, hr3, h⟩ := bd_of h
    refine g_callVv C (kX3_clearTally l Z a0 a0_closed a0_ranks a0_numbers a0_sets a0_rankSizes a0_tally o0 p1 p2 r2 hr3) 0 rfl (ci := 3) rfl rfl myX3_clearTally 86 mw_2_207 rfl [0, 2] [1] [1, 0, 2] (wr := [(a0_closed, .inl (zI Z, 256, .inl (q3_closed o0)))]) rfl rfl (by decide) (by decide) (by decide) [(a0, .inr (3, [.ref a0_closed, .ref a0_ranks, .ref a0_numbers, .ref a0_sets, .ref a0_rankSizes, .int (q3_size o0), .ref a0_tally, .int (q3_points o0), .int (q3_all o0)])), (a0_closed, .inl (zI Z, 256, .inl (q3_closed o0))), (a0_tally, .inl (zI Z, 256, .inl (q3_tally r2)))] rfl (by decide) (Nat.le_of_ble_eq_true rfl) (by rw [hR]; exact Nat.le_of_ble_eq_true rfl) (by rw [hR]; exact Nat.le_of_ble_eq_true rfl) ⟨by rw [hR]; exact Nat.le_of_ble_eq_true rfl, by rw [hR]; exact Nat.le_of_ble_eq_true rfl⟩ rfl dX3_countChains_13 ?_
    refine g_aload_n C dX3_countChains_16 rfl 0 rfl ?_
    refine g_get C 3 31 gin3 0 rfl rfl 6 (by decide) mw_1_120 rfl rfl dX3_countChains_17 ?_
    refine g_iload_n C dX3_countChains_20 rfl 1 rfl ?_
    refine g_iconst C 1 dX3_countChains_21 (by decide) ?_
    obtain ⟨hi4, h⟩ := ck_of h
    refine g_iast C 2 rfl hi4 [(a0, .inr (3, [.ref a0_closed, .ref a0_ranks, .ref a0_numbers, .ref a0_sets, .ref a0_rankSizes, .int (q3_size o0), .ref a0_tally, .int (q3_points o0), .int (q3_all o0)])), (a0_closed, .inl (zI Z, 256, .inl (q3_closed o0))), (a0_tally, .inl (zI Z, 256, .inl (upd (q3_tally r2) (ix p1) 1)))] rfl dX3_countChains_22 ?_
    refine g_iload_n C dX3_countChains_23 rfl 2 rfl ?_
    refine g_iload_n C dX3_countChains_24 rfl 1 rfl ?_
    refine g_iconst C (-1) dX3_countChains_25 (by decide) ?_
    refine g_ixor C dX3_countChains_26 ?_
    refine g_iand C dX3_countChains_27 ?_
    refine g_istore_n C dX3_countChains_28 rfl (by decide) [(3, .int (p2 &&& (p1 ^^^ (-1)))), (0, .ref a0), (1, .int p1), (2, .int p2)] rfl ?_
    refine g_iload_n C dX3_countChains_29 rfl 0 rfl ?_
    obtain ⟨r5, hr6, h⟩ := bd_of h
    refine g_callSi C (kX3_partsOf l Z (p2 &&& (p1 ^^^ (-1))) r5 hr6) myX3_partsOf 80 mw_2_211 rfl [] [0, 1, 2] [0, 1, 2] (wr := [(a0, .inr (3, [.ref a0_closed, .ref a0_ranks, .ref a0_numbers, .ref a0_sets, .ref a0_rankSizes, .int (q3_size o0), .ref a0_tally, .int (q3_points o0), .int (q3_all o0)])), (a0_closed, .inl (zI Z, 256, .inl (q3_closed o0))), (a0_tally, .inl (zI Z, 256, .inl (upd (q3_tally r2) (ix p1) 1)))]) rfl rfl (by decide) (by decide) (by decide) [(a0, .inr (3, [.ref a0_closed, .ref a0_ranks, .ref a0_numbers, .ref a0_sets, .ref a0_rankSizes, .int (q3_size o0), .ref a0_tally, .int (q3_points o0), .int (q3_all o0)])), (a0_closed, .inl (zI Z, 256, .inl (q3_closed o0))), (a0_tally, .inl (zI Z, 256, .inl (upd (q3_tally r2) (ix p1) 1)))] rfl (by decide) (Nat.le_of_ble_eq_true rfl) (by rw [hR]; exact Nat.le_of_ble_eq_true rfl) (by rw [hR]; exact Nat.le_of_ble_eq_true rfl) ⟨by rw [hR]; exact Nat.le_of_ble_eq_true rfl, by rw [hR]; exact Nat.le_of_ble_eq_true rfl⟩ rfl dX3_countChains_30 ?_
    refine g_istore C dX3_countChains_33 (by decide) [(4, .int r5), (3, .int (p2 &&& (p1 ^^^ (-1)))), (0, .ref a0), (1, .int p1), (2, .int p2)] rfl ?_
    refine g_iconst C 0 dX3_countChains_35 (by decide) ?_
    refine g_istore C dX3_countChains_36 (by decide) [(5, .int 0), (4, .int r5), (3, .int (p2 &&& (p1 ^^^ (-1)))), (0, .ref a0), (1, .int p1), (2, .int p2)] rfl ?_
    refine g_iconst C 0 dX3_countChains_38 (by decide) ?_
    refine g_istore C dX3_countChains_39 (by decide) [(6, .int 0), (5, .int 0), (4, .int r5), (3, .int (p2 &&& (p1 ^^^ (-1)))), (0, .ref a0), (1, .int p1), (2, .int p2)] rfl ?_
    refine g_lv [4, 5, 6, 3, 2, 1, 0] [(0, .ref a0), (1, .int p1), (2, .int p2), (3, .int (p2 &&& (p1 ^^^ (-1)))), (4, .int r5), (5, .int 0), (6, .int 0)] rfl ?_
    refine g_loop (lvf := fun v7 => [(0, .ref a0), (1, .int p1), (2, .int p2), (3, .int (p2 &&& (p1 ^^^ (-1)))), (4, .int r5), (5, .int v7.1), (6, .int v7.2.1)]) (wsf := fun v7 => [(a0, .inr (3, [.ref a0_closed, .ref a0_ranks, .ref a0_numbers, .ref a0_sets, .ref a0_rankSizes, .int (q3_size o0), .ref a0_tally, .int (q3_points o0), .int (q3_all o0)])), (a0_closed, .inl (zI Z, 256, .inl (q3_closed o0))), (a0_tally, .inl (zI Z, 256, .inl v7.2.2))]) h (fun v7 y1 h hk1 hx1 => ?_)
    refine g_eq (lv1 := [(0, .ref a0), (1, .int p1), (2, .int p2), (3, .int (p2 &&& (p1 ^^^ (-1)))), (4, .int r5), (5, .int v7.1), (6, .int v7.2.1)]) (st1 := []) (ws1 := [(a0, .inr (3, [.ref a0_closed, .ref a0_ranks, .ref a0_numbers, .ref a0_sets, .ref a0_rankSizes, .int (q3_size o0), .ref a0_tally, .int (q3_points o0), .int (q3_all o0)])), (a0_closed, .inl (zI Z, 256, .inl (q3_closed o0))), (a0_tally, .inl (zI Z, 256, .inl v7.2.2))]) rfl rfl rfl rfl ?_
    unfold fX3_countChains_L41 at h
    refine g_iload C dX3_countChains_41 6 rfl ?_
    refine g_iload C dX3_countChains_43 4 rfl ?_
    refine g_icmp_ge C 82 dX3_countChains_45 (by decide) (fun c8 => ?_) (fun c8 => ?_)
    · replace h := it_t c8 h
      obtain ⟨r9, h, hy⟩ := ex_of h
      rw [hx1 r9 hy] at h
      refine g_aload_n C dX3_countChains_82 rfl 0 rfl ?_
      refine g_get C 3 31 gin3 0 rfl rfl 6 (by decide) mw_1_120 rfl rfl dX3_countChains_83 ?_
      refine g_iload_n C dX3_countChains_86 rfl 2 rfl ?_
      obtain ⟨hi10, h⟩ := ck_of h
      refine g_iald C 2 rfl hi10 dX3_countChains_87 ?_
      obtain rfl := Option.some.inj h
      subst hQ
      exact g_iret C rfl hr hlk dX3_countChains_88 [0, 1, 2] rfl (by decide)
    · replace h := it_f c8 h
      refine g_aload_n C dX3_countChains_48 rfl 0 rfl ?_
      refine g_iload_n C dX3_countChains_49 rfl 1 rfl ?_
      refine g_iload C dX3_countChains_50 5 rfl ?_
      refine g_ior C dX3_countChains_52 ?_
      obtain ⟨r11, hr12, h⟩ := bd_of h
      refine g_callVi C (kX3_isFace l Z a0 a0_closed a0_ranks a0_numbers a0_sets a0_rankSizes a0_tally (s3_tally o0 v7.2.2) (p1 ||| v7.1) r11 hr12) 0 rfl (ci := 3) rfl rfl myX3_isFace 57 mw_1_208 rfl [0, 1] [2] [1, 2, 0] (wr := [(a0_tally, .inl (zI Z, 256, .inl v7.2.2))]) rfl rfl (by decide) (by decide) (by decide) [(a0, .inr (3, [.ref a0_closed, .ref a0_ranks, .ref a0_numbers, .ref a0_sets, .ref a0_rankSizes, .int (q3_size o0), .ref a0_tally, .int (q3_points o0), .int (q3_all o0)])), (a0_closed, .inl (zI Z, 256, .inl (q3_closed o0))), (a0_tally, .inl (zI Z, 256, .inl v7.2.2))] rfl (by decide) (Nat.le_of_ble_eq_true rfl) (by rw [hR]; exact Nat.le_of_ble_eq_true rfl) (by rw [hR]; exact Nat.le_of_ble_eq_true rfl) ⟨by rw [hR]; exact Nat.le_of_ble_eq_true rfl, by rw [hR]; exact Nat.le_of_ble_eq_true rfl⟩ rfl dX3_countChains_53 ?_
      have hj68 : ∀ (x13 : Nat → Int32), fX3_countChains_J68 p1 p2 v7 x13 = some y1 → Gw p l e R s m args below meth c 7 Z A Q 0 0 68 [(0, .ref a0), (1, .int p1), (2, .int p2), (3, .int (p2 &&& (p1 ^^^ (-1)))), (4, .int r5), (5, .int v7.1), (6, .int v7.2.1)] [] [(a0, .inr (3, [.ref a0_closed, .ref a0_ranks, .ref a0_numbers, .ref a0_sets, .ref a0_rankSizes, .int (q3_size o0), .ref a0_tally, .int (q3_points o0), .int (q3_all o0)])), (a0_closed, .inl (zI Z, 256, .inl (q3_closed o0))), (a0_tally, .inl (zI Z, 256, .inl x13))] := by
        intro x13 h
        unfold fX3_countChains_J68 at h
        refine g_iload C dX3_countChains_68 5 rfl ?_
        refine g_iload_n C dX3_countChains_70 rfl 3 rfl ?_
        obtain ⟨r14, hr15, h⟩ := bd_of h
        refine g_callSi C (kX3_partAfter l Z v7.1 (p2 &&& (p1 ^^^ (-1))) r14 hr15) myX3_partAfter 83 mw_2_220 rfl [] [0, 1, 2] [0, 1, 2] (wr := [(a0, .inr (3, [.ref a0_closed, .ref a0_ranks, .ref a0_numbers, .ref a0_sets, .ref a0_rankSizes, .int (q3_size o0), .ref a0_tally, .int (q3_points o0), .int (q3_all o0)])), (a0_closed, .inl (zI Z, 256, .inl (q3_closed o0))), (a0_tally, .inl (zI Z, 256, .inl x13))]) rfl rfl (by decide) (by decide) (by decide) [(a0, .inr (3, [.ref a0_closed, .ref a0_ranks, .ref a0_numbers, .ref a0_sets, .ref a0_rankSizes, .int (q3_size o0), .ref a0_tally, .int (q3_points o0), .int (q3_all o0)])), (a0_closed, .inl (zI Z, 256, .inl (q3_closed o0))), (a0_tally, .inl (zI Z, 256, .inl x13))] rfl (by decide) (Nat.le_of_ble_eq_true rfl) (by rw [hR]; exact Nat.le_of_ble_eq_true rfl) (by rw [hR]; exact Nat.le_of_ble_eq_true rfl) ⟨by rw [hR]; exact Nat.le_of_ble_eq_true rfl, by rw [hR]; exact Nat.le_of_ble_eq_true rfl⟩ rfl dX3_countChains_71 ?_
        refine g_istore C dX3_countChains_74 (by decide) [(5, .int r14), (0, .ref a0), (1, .int p1), (2, .int p2), (3, .int (p2 &&& (p1 ^^^ (-1)))), (4, .int r5), (6, .int v7.2.1)] rfl ?_
        refine g_iinc C (v7.2.1 + 1) dX3_countChains_76 6 rfl rfl (by decide) [(6, .int (v7.2.1 + 1)), (5, .int r14), (0, .ref a0), (1, .int p1), (2, .int p2), (3, .int (p2 &&& (p1 ^^^ (-1)))), (4, .int r5)] rfl ?_
        refine g_goto C 41 dX3_countChains_79 (by decide) ?_
        refine g_lv [2, 3, 4, 5, 6, 1, 0] [(0, .ref a0), (1, .int p1), (2, .int p2), (3, .int (p2 &&& (p1 ^^^ (-1)))), (4, .int r5), (5, .int r14), (6, .int (v7.2.1 + 1))] rfl ?_
        exact hk1 (r14, (v7.2.1 + 1), x13) (Option.some.inj h).symm
      refine g_if_eq C 68 dX3_countChains_56 (by decide) (fun c16 => ?_) (fun c16 => ?_)
      · replace h := it_t c16 h
        exact hj68 v7.2.2 h
      · replace h := it_f c16 h
        refine g_aload_n C dX3_countChains_59 rfl 0 rfl ?_
        refine g_iload_n C dX3_countChains_60 rfl 1 rfl ?_
        refine g_iload C dX3_countChains_61 5 rfl ?_
        refine g_ior C dX3_countChains_63 ?_
        refine g_iload_n C dX3_countChains_64 rfl 2 rfl ?_
        obtain ⟨r17, hr18, h⟩ := bd_of h
        refine g_callVv C (kX3_passOn l Z a0 a0_closed a0_ranks a0_numbers a0_sets a0_rankSizes a0_tally (s3_tally o0 v7.2.2) (p1 ||| v7.1) p2 r17 hr18) 0 rfl (ci := 3) rfl rfl myX3_passOn 90 mw_3_17 rfl [0, 1, 2] [] [0, 1, 2] (wr := []) rfl rfl (by decide) (by decide) (by decide) [(a0, .inr (3, [.ref a0_closed, .ref a0_ranks, .ref a0_numbers, .ref a0_sets, .ref a0_rankSizes, .int (q3_size o0), .ref a0_tally, .int (q3_points o0), .int (q3_all o0)])), (a0_closed, .inl (zI Z, 256, .inl (q3_closed o0))), (a0_tally, .inl (zI Z, 256, .inl (q3_tally r17)))] rfl (by decide) (Nat.le_of_ble_eq_true rfl) (by rw [hR]; exact Nat.le_of_ble_eq_true rfl) (by rw [hR]; exact Nat.le_of_ble_eq_true rfl) ⟨by rw [hR]; exact Nat.le_of_ble_eq_true rfl, by rw [hR]; exact Nat.le_of_ble_eq_true rfl⟩ rfl dX3_countChains_65 ?_
        exact hj68 (q3_tally r17) h
  · replace h := it_f c1 h
    refine g_iconst C 0 dX3_countChains_8 (by decide) ?_
    obtain rfl := Option.some.inj h
    subst hQ
    exact g_iret C rfl hr hlk dX3_countChains_9 [0, 1, 2] rfl (by decide)
def fX3_signOf (p0 : Int32) : Option (Int32) :=
  if (p0 &&& 1) = 0 then (some 1)
  else (some (-1))
theorem myX3_signOf : MYs yX3_signOf cX3_signOf 1 (some .int) 1 := ⟨mw_2_193, mw_2_194, mw_1_5, ⟨by decide +kernel, by decide +kernel⟩, by decide +kernel⟩
set_option maxRecDepth 100000 in
set_option maxHeartbeats 4000000 in
theorem kX3_signOf (l : Launch) (Z : GZ) (p0 : Int32) (res : Int32) (h : fX3_signOf p0 = some res) : MI l Z yX3_signOf cX3_signOf 1 .int 0 0 [.int p0] [] res [] := by
  refine MI_of (by decide +kernel) (Nat.le_of_ble_eq_true rfl) (fun {p e s m args below meth c} A R hR Q hQ C hr hlk => ?_)
  unfold fX3_signOf at h
  refine g_lv [0] [(0, .int p0)] rfl ?_
  refine g_iload_n C dX3_signOf_0 rfl 0 rfl ?_
  refine g_iconst C 1 dX3_signOf_1 (by decide) ?_
  refine g_iand C dX3_signOf_2 ?_
  refine g_if_ne C 10 dX3_signOf_3 (by decide) (fun c1 => ?_) (fun c1 => ?_)
  · replace h := it_f c1 h
    refine g_iconst C (-1) dX3_signOf_10 (by decide) ?_
    obtain rfl := Option.some.inj h
    subst hQ
    exact g_iret C rfl hr hlk dX3_signOf_11 [] rfl (by decide)
  · replace h := it_t c1 h
    refine g_iconst C 1 dX3_signOf_6 (by decide) ?_
    refine g_goto C 11 dX3_signOf_7 (by decide) ?_
    obtain rfl := Option.some.inj h
    subst hQ
    exact g_iret C rfl hr hlk dX3_signOf_11 [] rfl (by decide)
def fX3_tallyMobius_L24 (o0 : OX3) (p1 : Int32) (p2 : Int32) (r3 : Int32) (v5 : Int32 × Int32 × (Nat → Int32)) : Option ((Int32 × Int32 × (Nat → Int32)) ⊕ (OX3)) :=
  if r3 ≤ v5.2.1 then (ex (some (s3_tally o0 v5.2.2)))
  else (ck (okI (p1 ||| v5.1) 256) (ck (okI ((q3_closed o0) (ix (p1 ||| v5.1))) 256) ((fJ6_bitCount_0f7a4 v5.1).bind fun r10 =>
  ((fX3_signOf r10).bind fun r12 =>
  (ck (okI ((q3_closed o0) (ix (p1 ||| v5.1))) 256) ((fX3_partAfter v5.1 (p2 &&& (p1 ^^^ (-1)))).bind fun r15 =>
  (some (.inl (r15, (v5.2.1 + 1), (upd v5.2.2 (ix ((q3_closed o0) (ix (p1 ||| v5.1)))) ((v5.2.2 (ix ((q3_closed o0) (ix (p1 ||| v5.1))))) + r12)))))))))))
def fX3_tallyMobius (o0 : OX3) (p1 : Int32) (p2 : Int32) : Option (OX3) :=
  (fX3_clearTally o0 p1 p2).bind fun r1 =>
  ((fX3_partsOf (p2 &&& (p1 ^^^ (-1)))).bind fun r3 =>
  (lp (fX3_tallyMobius_L24 o0 p1 p2 r3) lpN (0, 0, (q3_tally r1))))
theorem myX3_tallyMobius : MYv yX3_tallyMobius cX3_tallyMobius 7 none 2 := ⟨mw_2_205, ms_9, mw_2_206, mw_1_5, ⟨by decide +kernel, by decide +kernel⟩, by decide +kernel⟩
set_option maxRecDepth 100000 in
set_option maxHeartbeats 4000000 in
theorem kX3_tallyMobius (l : Launch) (Z : GZ) (a0 a0_closed a0_ranks a0_numbers a0_sets a0_rankSizes a0_tally : Nat) (o0 : OX3) (p1 : Int32) (p2 : Int32) (res : OX3) (h : fX3_tallyMobius o0 p1 p2 = some res) : MV l Z yX3_tallyMobius cX3_tallyMobius 7 3 66 [.ref a0, .int p1, .int p2] [(a0, .inr (3, [.ref a0_closed, .ref a0_ranks, .ref a0_numbers, .ref a0_sets, .ref a0_rankSizes, .int (q3_size o0), .ref a0_tally, .int (q3_points o0), .int (q3_all o0)])), (a0_closed, .inl (zI Z, 256, .inl (q3_closed o0))), (a0_tally, .inl (zI Z, 256, .inl (q3_tally o0)))] [(a0, .inr (3, [.ref a0_closed, .ref a0_ranks, .ref a0_numbers, .ref a0_sets, .ref a0_rankSizes, .int (q3_size o0), .ref a0_tally, .int (q3_points o0), .int (q3_all o0)])), (a0_closed, .inl (zI Z, 256, .inl (q3_closed o0))), (a0_tally, .inl (zI Z, 256, .inl (q3_tally res)))] := by
  refine MV_of (by decide +kernel) (Nat.le_of_ble_eq_true rfl) (fun {p e s m args below meth c} A R hR Q hQ C hr hlk => ?_)
  unfold fX3_tallyMobius at h
  refine g_lv [0, 1, 2] [(0, .ref a0), (1, .int p1), (2, .int p2)] rfl ?_
  refine g_aload_n C dX3_tallyMobius_0 rfl 0 rfl ?_
  refine g_iload_n C dX3_tallyMobius_1 rfl 1 rfl ?_
  refine g_iload_n C dX3_tallyMobius_2 rfl 2 rfl ?_
  obtain ⟨r1, hr2, h⟩ := bd_of h
  refine g_callVv C (kX3_clearTally l Z a0 a0_closed a0_ranks a0_numbers a0_sets a0_rankSizes a0_tally o0 p1 p2 r1 hr2) 0 rfl (ci := 3) rfl rfl myX3_clearTally 86 mw_2_207 rfl [0, 2] [1] [1, 0, 2] (wr := [(a0_closed, .inl (zI Z, 256, .inl (q3_closed o0)))]) rfl rfl (by decide) (by decide) (by decide) [(a0, .inr (3, [.ref a0_closed, .ref a0_ranks, .ref a0_numbers, .ref a0_sets, .ref a0_rankSizes, .int (q3_size o0), .ref a0_tally, .int (q3_points o0), .int (q3_all o0)])), (a0_closed, .inl (zI Z, 256, .inl (q3_closed o0))), (a0_tally, .inl (zI Z, 256, .inl (q3_tally r1)))] rfl (by decide) (Nat.le_of_ble_eq_true rfl) (by rw [hR]; exact Nat.le_of_ble_eq_true rfl) (by rw [hR]; exact Nat.le_of_ble_eq_true rfl) ⟨by rw [hR]; exact Nat.le_of_ble_eq_true rfl, by rw [hR]; exact Nat.le_of_ble_eq_true rfl⟩ rfl dX3_tallyMobius_3 ?_
  refine g_iload_n C dX3_tallyMobius_6 rfl 2 rfl ?_
  refine g_iload_n C dX3_tallyMobius_7 rfl 1 rfl ?_
  refine g_iconst C (-1) dX3_tallyMobius_8 (by decide) ?_
  refine g_ixor C dX3_tallyMobius_9 ?_
  refine g_iand C dX3_tallyMobius_10 ?_
  refine g_istore_n C dX3_tallyMobius_11 rfl (by decide) [(3, .int (p2 &&& (p1 ^^^ (-1)))), (0, .ref a0), (1, .int p1), (2, .int p2)] rfl ?_
  refine g_iload_n C dX3_tallyMobius_12 rfl 0 rfl ?_
  obtain ⟨r3, hr4, h⟩ := bd_of h
  refine g_callSi C (kX3_partsOf l Z (p2 &&& (p1 ^^^ (-1))) r3 hr4) myX3_partsOf 80 mw_2_211 rfl [] [0, 1, 2] [0, 1, 2] (wr := [(a0, .inr (3, [.ref a0_closed, .ref a0_ranks, .ref a0_numbers, .ref a0_sets, .ref a0_rankSizes, .int (q3_size o0), .ref a0_tally, .int (q3_points o0), .int (q3_all o0)])), (a0_closed, .inl (zI Z, 256, .inl (q3_closed o0))), (a0_tally, .inl (zI Z, 256, .inl (q3_tally r1)))]) rfl rfl (by decide) (by decide) (by decide) [(a0, .inr (3, [.ref a0_closed, .ref a0_ranks, .ref a0_numbers, .ref a0_sets, .ref a0_rankSizes, .int (q3_size o0), .ref a0_tally, .int (q3_points o0), .int (q3_all o0)])), (a0_closed, .inl (zI Z, 256, .inl (q3_closed o0))), (a0_tally, .inl (zI Z, 256, .inl (q3_tally r1)))] rfl (by decide) (Nat.le_of_ble_eq_true rfl) (by rw [hR]; exact Nat.le_of_ble_eq_true rfl) (by rw [hR]; exact Nat.le_of_ble_eq_true rfl) ⟨by rw [hR]; exact Nat.le_of_ble_eq_true rfl, by rw [hR]; exact Nat.le_of_ble_eq_true rfl⟩ rfl dX3_tallyMobius_13 ?_
  refine g_istore C dX3_tallyMobius_16 (by decide) [(4, .int r3), (3, .int (p2 &&& (p1 ^^^ (-1)))), (0, .ref a0), (1, .int p1), (2, .int p2)] rfl ?_
  refine g_iconst C 0 dX3_tallyMobius_18 (by decide) ?_
  refine g_istore C dX3_tallyMobius_19 (by decide) [(5, .int 0), (4, .int r3), (3, .int (p2 &&& (p1 ^^^ (-1)))), (0, .ref a0), (1, .int p1), (2, .int p2)] rfl ?_
  refine g_iconst C 0 dX3_tallyMobius_21 (by decide) ?_
  refine g_istore C dX3_tallyMobius_22 (by decide) [(6, .int 0), (5, .int 0), (4, .int r3), (3, .int (p2 &&& (p1 ^^^ (-1)))), (0, .ref a0), (1, .int p1), (2, .int p2)] rfl ?_
  refine g_lv [4, 5, 3, 2, 1, 0] [(0, .ref a0), (1, .int p1), (3, .int (p2 &&& (p1 ^^^ (-1)))), (4, .int r3), (5, .int 0), (6, .int 0)] rfl ?_
  refine g_loop (lvf := fun v5 => [(0, .ref a0), (1, .int p1), (3, .int (p2 &&& (p1 ^^^ (-1)))), (4, .int r3), (5, .int v5.1), (6, .int v5.2.1)]) (wsf := fun v5 => [(a0, .inr (3, [.ref a0_closed, .ref a0_ranks, .ref a0_numbers, .ref a0_sets, .ref a0_rankSizes, .int (q3_size o0), .ref a0_tally, .int (q3_points o0), .int (q3_all o0)])), (a0_closed, .inl (zI Z, 256, .inl (q3_closed o0))), (a0_tally, .inl (zI Z, 256, .inl v5.2.2))]) h (fun v5 y1 h hk1 hx1 => ?_)
  refine g_eq (lv1 := [(0, .ref a0), (1, .int p1), (3, .int (p2 &&& (p1 ^^^ (-1)))), (4, .int r3), (5, .int v5.1), (6, .int v5.2.1)]) (st1 := []) (ws1 := [(a0, .inr (3, [.ref a0_closed, .ref a0_ranks, .ref a0_numbers, .ref a0_sets, .ref a0_rankSizes, .int (q3_size o0), .ref a0_tally, .int (q3_points o0), .int (q3_all o0)])), (a0_closed, .inl (zI Z, 256, .inl (q3_closed o0))), (a0_tally, .inl (zI Z, 256, .inl v5.2.2))]) rfl rfl rfl rfl ?_
  unfold fX3_tallyMobius_L24 at h
  refine g_iload C dX3_tallyMobius_24 5 rfl ?_
  refine g_iload C dX3_tallyMobius_26 3 rfl ?_
  refine g_icmp_ge C 70 dX3_tallyMobius_28 (by decide) (fun c6 => ?_) (fun c6 => ?_)
  · replace h := it_t c6 h
    obtain ⟨r7, h, hy⟩ := ex_of h
    rw [hx1 r7 hy] at h
    obtain rfl := Option.some.inj h
    subst hQ
    exact g_vret C hr hlk dX3_tallyMobius_70 [0, 1, 2] rfl (by decide)
  · replace h := it_f c6 h
    refine g_aload_n C dX3_tallyMobius_31 rfl 0 rfl ?_
    refine g_get C 3 31 gin3 0 rfl rfl 6 (by decide) mw_1_120 rfl rfl dX3_tallyMobius_32 ?_
    refine g_aload_n C dX3_tallyMobius_35 rfl 0 rfl ?_
    refine g_get C 3 9 gin3 0 rfl rfl 0 (by decide) mw_1_108 rfl rfl dX3_tallyMobius_36 ?_
    refine g_iload_n C dX3_tallyMobius_39 rfl 1 rfl ?_
    refine g_iload C dX3_tallyMobius_40 4 rfl ?_
    refine g_ior C dX3_tallyMobius_42 ?_
    obtain ⟨hi8, h⟩ := ck_of h
    refine g_iald C 1 rfl hi8 dX3_tallyMobius_43 ?_
    refine g_dup2 C dX3_tallyMobius_44 rfl rfl ?_
    obtain ⟨hi9, h⟩ := ck_of h
    refine g_iald C 2 rfl hi9 dX3_tallyMobius_45 ?_
    refine g_iload C dX3_tallyMobius_46 4 rfl ?_
    obtain ⟨r10, hr11, h⟩ := bd_of h
    refine g_callSi C (kJ6_bitCount_0f7a4 l Z v5.1 r10 hr11) myJ6_bitCount_0f7a4 75 mw_2_214 rfl [] [0, 1, 2] [0, 1, 2] (wr := [(a0, .inr (3, [.ref a0_closed, .ref a0_ranks, .ref a0_numbers, .ref a0_sets, .ref a0_rankSizes, .int (q3_size o0), .ref a0_tally, .int (q3_points o0), .int (q3_all o0)])), (a0_closed, .inl (zI Z, 256, .inl (q3_closed o0))), (a0_tally, .inl (zI Z, 256, .inl v5.2.2))]) rfl rfl (by decide) (by decide) (by decide) [(a0, .inr (3, [.ref a0_closed, .ref a0_ranks, .ref a0_numbers, .ref a0_sets, .ref a0_rankSizes, .int (q3_size o0), .ref a0_tally, .int (q3_points o0), .int (q3_all o0)])), (a0_closed, .inl (zI Z, 256, .inl (q3_closed o0))), (a0_tally, .inl (zI Z, 256, .inl v5.2.2))] rfl (by decide) (Nat.le_of_ble_eq_true rfl) (by rw [hR]; exact Nat.le_of_ble_eq_true rfl) (by rw [hR]; exact Nat.le_of_ble_eq_true rfl) ⟨by rw [hR]; exact Nat.le_of_ble_eq_true rfl, by rw [hR]; exact Nat.le_of_ble_eq_true rfl⟩ rfl dX3_tallyMobius_48 ?_
    obtain ⟨r12, hr13, h⟩ := bd_of h
    refine g_callSi C (kX3_signOf l Z r10 r12 hr13) myX3_signOf 99 mw_2_192 rfl [] [0, 1, 2] [0, 1, 2] (wr := [(a0, .inr (3, [.ref a0_closed, .ref a0_ranks, .ref a0_numbers, .ref a0_sets, .ref a0_rankSizes, .int (q3_size o0), .ref a0_tally, .int (q3_points o0), .int (q3_all o0)])), (a0_closed, .inl (zI Z, 256, .inl (q3_closed o0))), (a0_tally, .inl (zI Z, 256, .inl v5.2.2))]) rfl rfl (by decide) (by decide) (by decide) [(a0, .inr (3, [.ref a0_closed, .ref a0_ranks, .ref a0_numbers, .ref a0_sets, .ref a0_rankSizes, .int (q3_size o0), .ref a0_tally, .int (q3_points o0), .int (q3_all o0)])), (a0_closed, .inl (zI Z, 256, .inl (q3_closed o0))), (a0_tally, .inl (zI Z, 256, .inl v5.2.2))] rfl (by decide) (Nat.le_of_ble_eq_true rfl) (by rw [hR]; exact Nat.le_of_ble_eq_true rfl) (by rw [hR]; exact Nat.le_of_ble_eq_true rfl) ⟨by rw [hR]; exact Nat.le_of_ble_eq_true rfl, by rw [hR]; exact Nat.le_of_ble_eq_true rfl⟩ rfl dX3_tallyMobius_51 ?_
    refine g_iadd C dX3_tallyMobius_54 ?_
    obtain ⟨hi14, h⟩ := ck_of h
    refine g_iast C 2 rfl hi14 [(a0, .inr (3, [.ref a0_closed, .ref a0_ranks, .ref a0_numbers, .ref a0_sets, .ref a0_rankSizes, .int (q3_size o0), .ref a0_tally, .int (q3_points o0), .int (q3_all o0)])), (a0_closed, .inl (zI Z, 256, .inl (q3_closed o0))), (a0_tally, .inl (zI Z, 256, .inl (upd v5.2.2 (ix ((q3_closed o0) (ix (p1 ||| v5.1)))) ((v5.2.2 (ix ((q3_closed o0) (ix (p1 ||| v5.1))))) + r12))))] rfl dX3_tallyMobius_55 ?_
    refine g_iload C dX3_tallyMobius_56 4 rfl ?_
    refine g_iload_n C dX3_tallyMobius_58 rfl 2 rfl ?_
    obtain ⟨r15, hr16, h⟩ := bd_of h
    refine g_callSi C (kX3_partAfter l Z v5.1 (p2 &&& (p1 ^^^ (-1))) r15 hr16) myX3_partAfter 83 mw_2_220 rfl [] [0, 1, 2] [0, 1, 2] (wr := [(a0, .inr (3, [.ref a0_closed, .ref a0_ranks, .ref a0_numbers, .ref a0_sets, .ref a0_rankSizes, .int (q3_size o0), .ref a0_tally, .int (q3_points o0), .int (q3_all o0)])), (a0_closed, .inl (zI Z, 256, .inl (q3_closed o0))), (a0_tally, .inl (zI Z, 256, .inl (upd v5.2.2 (ix ((q3_closed o0) (ix (p1 ||| v5.1)))) ((v5.2.2 (ix ((q3_closed o0) (ix (p1 ||| v5.1))))) + r12))))]) rfl rfl (by decide) (by decide) (by decide) [(a0, .inr (3, [.ref a0_closed, .ref a0_ranks, .ref a0_numbers, .ref a0_sets, .ref a0_rankSizes, .int (q3_size o0), .ref a0_tally, .int (q3_points o0), .int (q3_all o0)])), (a0_closed, .inl (zI Z, 256, .inl (q3_closed o0))), (a0_tally, .inl (zI Z, 256, .inl (upd v5.2.2 (ix ((q3_closed o0) (ix (p1 ||| v5.1)))) ((v5.2.2 (ix ((q3_closed o0) (ix (p1 ||| v5.1))))) + r12))))] rfl (by decide) (Nat.le_of_ble_eq_true rfl) (by rw [hR]; exact Nat.le_of_ble_eq_true rfl) (by rw [hR]; exact Nat.le_of_ble_eq_true rfl) ⟨by rw [hR]; exact Nat.le_of_ble_eq_true rfl, by rw [hR]; exact Nat.le_of_ble_eq_true rfl⟩ rfl dX3_tallyMobius_59 ?_
    refine g_istore C dX3_tallyMobius_62 (by decide) [(5, .int r15), (0, .ref a0), (1, .int p1), (3, .int (p2 &&& (p1 ^^^ (-1)))), (4, .int r3), (6, .int v5.2.1)] rfl ?_
    refine g_iinc C (v5.2.1 + 1) dX3_tallyMobius_64 5 rfl rfl (by decide) [(6, .int (v5.2.1 + 1)), (5, .int r15), (0, .ref a0), (1, .int p1), (3, .int (p2 &&& (p1 ^^^ (-1)))), (4, .int r3)] rfl ?_
    refine g_goto C 24 dX3_tallyMobius_67 (by decide) ?_
    refine g_lv [2, 3, 4, 5, 1, 0] [(0, .ref a0), (1, .int p1), (3, .int (p2 &&& (p1 ^^^ (-1)))), (4, .int r3), (5, .int r15), (6, .int (v5.2.1 + 1))] rfl ?_
    exact hk1 (r15, (v5.2.1 + 1), (upd v5.2.2 (ix ((q3_closed o0) (ix (p1 ||| v5.1)))) ((v5.2.2 (ix ((q3_closed o0) (ix (p1 ||| v5.1))))) + r12))) (Option.some.inj h).symm
def fX3_mobiusNumber (o0 : OX3) (p1 : Int32) (p2 : Int32) : Option (Int32 × OX3) :=
  if (p1 &&& (p2 ^^^ (-1))) = 0 then ((fX3_tallyMobius o0 p1 p2).bind fun r2 =>
  (ck (okI p2 256) (some (((q3_tally r2) (ix p2)), (s3_tally o0 (q3_tally r2))))))
  else (some (0, o0))
theorem myX3_mobiusNumber : MYv yX3_mobiusNumber cX3_mobiusNumber 3 (some .int) 2 := ⟨mw_4_208, mw_4_209, mw_4_210, mw_1_5, ⟨by decide +kernel, by decide +kernel⟩, by decide +kernel⟩
set_option maxRecDepth 100000 in
set_option maxHeartbeats 4000000 in
theorem kX3_mobiusNumber (l : Launch) (Z : GZ) (a0 a0_closed a0_ranks a0_numbers a0_sets a0_rankSizes a0_tally : Nat) (o0 : OX3) (p1 : Int32) (p2 : Int32) (res : Int32 × OX3) (h : fX3_mobiusNumber o0 p1 p2 = some res) : MI l Z yX3_mobiusNumber cX3_mobiusNumber 3 .int 4 92 [.ref a0, .int p1, .int p2] [(a0, .inr (3, [.ref a0_closed, .ref a0_ranks, .ref a0_numbers, .ref a0_sets, .ref a0_rankSizes, .int (q3_size o0), .ref a0_tally, .int (q3_points o0), .int (q3_all o0)])), (a0_closed, .inl (zI Z, 256, .inl (q3_closed o0))), (a0_tally, .inl (zI Z, 256, .inl (q3_tally o0)))] res.1 [(a0, .inr (3, [.ref a0_closed, .ref a0_ranks, .ref a0_numbers, .ref a0_sets, .ref a0_rankSizes, .int (q3_size o0), .ref a0_tally, .int (q3_points o0), .int (q3_all o0)])), (a0_closed, .inl (zI Z, 256, .inl (q3_closed o0))), (a0_tally, .inl (zI Z, 256, .inl (q3_tally res.2)))] := by
  refine MI_of (by decide +kernel) (Nat.le_of_ble_eq_true rfl) (fun {p e s m args below meth c} A R hR Q hQ C hr hlk => ?_)
  unfold fX3_mobiusNumber at h
  refine g_lv [0, 1, 2] [(0, .ref a0), (1, .int p1), (2, .int p2)] rfl ?_
  refine g_iload_n C dX3_mobiusNumber_0 rfl 1 rfl ?_
  refine g_iload_n C dX3_mobiusNumber_1 rfl 2 rfl ?_
  refine g_iconst C (-1) dX3_mobiusNumber_2 (by decide) ?_
  refine g_ixor C dX3_mobiusNumber_3 ?_
  refine g_iand C dX3_mobiusNumber_4 ?_
  refine g_if_eq C 10 dX3_mobiusNumber_5 (by decide) (fun c1 => ?_) (fun c1 => ?_)
  · replace h := it_t c1 h
    refine g_aload_n C dX3_mobiusNumber_10 rfl 0 rfl ?_
    refine g_iload_n C dX3_mobiusNumber_11 rfl 1 rfl ?_
    refine g_iload_n C dX3_mobiusNumber_12 rfl 2 rfl ?_
    obtain ⟨r2, hr3, h⟩ := bd_of h
    refine g_callVv C (kX3_tallyMobius l Z a0 a0_closed a0_ranks a0_numbers a0_sets a0_rankSizes a0_tally o0 p1 p2 r2 hr3) 0 rfl (ci := 3) rfl rfl myX3_tallyMobius 96 mw_2_203 rfl [0, 1, 2] [] [0, 1, 2] (wr := []) rfl rfl (by decide) (by decide) (by decide) [(a0, .inr (3, [.ref a0_closed, .ref a0_ranks, .ref a0_numbers, .ref a0_sets, .ref a0_rankSizes, .int (q3_size o0), .ref a0_tally, .int (q3_points o0), .int (q3_all o0)])), (a0_closed, .inl (zI Z, 256, .inl (q3_closed o0))), (a0_tally, .inl (zI Z, 256, .inl (q3_tally r2)))] rfl (by decide) (Nat.le_of_ble_eq_true rfl) (by rw [hR]; exact Nat.le_of_ble_eq_true rfl) (by rw [hR]; exact Nat.le_of_ble_eq_true rfl) ⟨by rw [hR]; exact Nat.le_of_ble_eq_true rfl, by rw [hR]; exact Nat.le_of_ble_eq_true rfl⟩ rfl dX3_mobiusNumber_13 ?_
    refine g_aload_n C dX3_mobiusNumber_16 rfl 0 rfl ?_
    refine g_get C 3 31 gin3 0 rfl rfl 6 (by decide) mw_1_120 rfl rfl dX3_mobiusNumber_17 ?_
    refine g_iload_n C dX3_mobiusNumber_20 rfl 2 rfl ?_
    obtain ⟨hi4, h⟩ := ck_of h
    refine g_iald C 2 rfl hi4 dX3_mobiusNumber_21 ?_
    obtain rfl := Option.some.inj h
    subst hQ
    exact g_iret C rfl hr hlk dX3_mobiusNumber_22 [0, 1, 2] rfl (by decide)
  · replace h := it_f c1 h
    refine g_iconst C 0 dX3_mobiusNumber_8 (by decide) ?_
    obtain rfl := Option.some.inj h
    subst hQ
    exact g_iret C rfl hr hlk dX3_mobiusNumber_9 [0, 1, 2] rfl (by decide)
def fX3_graded_L12 (o0 : OX3) (v1 : Int32) (v4 : Int32) : Option ((Int32) ⊕ ((Int32) ⊕ (Int32))) :=
  if (q3_points o0) ≤ v4 then (ex (some (.inl (v1 + 1))))
  else (ck (okI v1 256) ((fX3_coverBy o0 ((q3_sets o0) (ix v1)) v4).bind fun r8 =>
  (if r8 = (-1) then (some (.inl (v4 + 1)))
  else (ck (okI r8 256) (ck (okI v1 256) (ck (okI ((q3_sets o0) (ix v1)) 256) (if ((q3_ranks o0) (ix r8)) = (((q3_ranks o0) (ix ((q3_sets o0) (ix v1)))) + 1) then (some (.inl (v4 + 1)))
  else (ex (ex (some 0))))))))))
def fX3_graded_L2 (o0 : OX3) (v1 : Int32) : Option ((Int32) ⊕ (Int32)) :=
  if (q3_size o0) ≤ v1 then (ex (some 1))
  else (lp (fX3_graded_L12 o0 v1) lpN 0)
def fX3_graded (o0 : OX3) : Option (Int32) :=
  lp (fX3_graded_L2 o0) lpN 0
theorem myX3_graded : MYv yX3_graded cX3_graded 4 (some .boolean) 0 := ⟨mw_2_173, mw_2_174, mw_2_175, mw_1_5, ⟨by decide +kernel, by decide +kernel⟩, by decide +kernel⟩
set_option maxRecDepth 100000 in
set_option maxHeartbeats 4000000 in
theorem kX3_graded (l : Launch) (Z : GZ) (a0 a0_closed a0_ranks a0_numbers a0_sets a0_rankSizes a0_tally : Nat) (o0 : OX3) (res : Int32) (h : fX3_graded o0 = some res) : MI l Z yX3_graded cX3_graded 4 .boolean 2 49 [.ref a0] [(a0, .inr (3, [.ref a0_closed, .ref a0_ranks, .ref a0_numbers, .ref a0_sets, .ref a0_rankSizes, .int (q3_size o0), .ref a0_tally, .int (q3_points o0), .int (q3_all o0)])), (a0_closed, .inl (zI Z, 256, .inl (q3_closed o0))), (a0_ranks, .inl (zI Z, 256, .inl (q3_ranks o0))), (a0_sets, .inl (zI Z, 256, .inl (q3_sets o0)))] res [(a0, .inr (3, [.ref a0_closed, .ref a0_ranks, .ref a0_numbers, .ref a0_sets, .ref a0_rankSizes, .int (q3_size o0), .ref a0_tally, .int (q3_points o0), .int (q3_all o0)])), (a0_closed, .inl (zI Z, 256, .inl (q3_closed o0))), (a0_ranks, .inl (zI Z, 256, .inl (q3_ranks o0))), (a0_sets, .inl (zI Z, 256, .inl (q3_sets o0)))] := by
  refine MI_of (by decide +kernel) (Nat.le_of_ble_eq_true rfl) (fun {p e s m args below meth c} A R hR Q hQ C hr hlk => ?_)
  unfold fX3_graded at h
  refine g_lv [0] [(0, .ref a0)] rfl ?_
  refine g_iconst C 0 dX3_graded_0 (by decide) ?_
  refine g_istore_n C dX3_graded_1 rfl (by decide) [(1, .int 0), (0, .ref a0)] rfl ?_
  refine g_lv [1, 0] [(0, .ref a0), (1, .int 0)] rfl ?_
  refine g_loop (lvf := fun v1 => [(0, .ref a0), (1, .int v1)]) (wsf := fun v1 => [(a0, .inr (3, [.ref a0_closed, .ref a0_ranks, .ref a0_numbers, .ref a0_sets, .ref a0_rankSizes, .int (q3_size o0), .ref a0_tally, .int (q3_points o0), .int (q3_all o0)])), (a0_closed, .inl (zI Z, 256, .inl (q3_closed o0))), (a0_ranks, .inl (zI Z, 256, .inl (q3_ranks o0))), (a0_sets, .inl (zI Z, 256, .inl (q3_sets o0)))]) h (fun v1 y1 h hk1 hx1 => ?_)
  refine g_eq (lv1 := [(0, .ref a0), (1, .int v1)]) (st1 := []) (ws1 := [(a0, .inr (3, [.ref a0_closed, .ref a0_ranks, .ref a0_numbers, .ref a0_sets, .ref a0_rankSizes, .int (q3_size o0), .ref a0_tally, .int (q3_points o0), .int (q3_all o0)])), (a0_closed, .inl (zI Z, 256, .inl (q3_closed o0))), (a0_ranks, .inl (zI Z, 256, .inl (q3_ranks o0))), (a0_sets, .inl (zI Z, 256, .inl (q3_sets o0)))]) rfl rfl rfl rfl ?_
  unfold fX3_graded_L2 at h
  refine g_iload_n C dX3_graded_2 rfl 1 rfl ?_
  refine g_aload_n C dX3_graded_3 rfl 0 rfl ?_
  refine g_get C 3 27 gin3 0 rfl rfl 5 (by decide) mw_1_118 rfl rfl dX3_graded_4 ?_
  refine g_icmp_ge C 73 dX3_graded_7 (by decide) (fun c2 => ?_) (fun c2 => ?_)
  · replace h := it_t c2 h
    obtain ⟨r3, h, hy⟩ := ex_of h
    rw [hx1 r3 hy] at h
    refine g_iconst C 1 dX3_graded_73 (by decide) ?_
    obtain rfl := Option.some.inj h
    subst hQ
    exact g_zret C rfl (Or.inr rfl) hr hlk dX3_graded_74 [0, 1, 2, 3] rfl (by decide)
  · replace h := it_f c2 h
    refine g_iconst C 0 dX3_graded_10 (by decide) ?_
    refine g_istore_n C dX3_graded_11 rfl (by decide) [(2, .int 0), (0, .ref a0), (1, .int v1)] rfl ?_
    refine g_lv [1, 2, 0] [(0, .ref a0), (1, .int v1), (2, .int 0)] rfl ?_
    refine g_loop (lvf := fun v4 => [(0, .ref a0), (1, .int v1), (2, .int v4)]) (wsf := fun v4 => [(a0, .inr (3, [.ref a0_closed, .ref a0_ranks, .ref a0_numbers, .ref a0_sets, .ref a0_rankSizes, .int (q3_size o0), .ref a0_tally, .int (q3_points o0), .int (q3_all o0)])), (a0_closed, .inl (zI Z, 256, .inl (q3_closed o0))), (a0_ranks, .inl (zI Z, 256, .inl (q3_ranks o0))), (a0_sets, .inl (zI Z, 256, .inl (q3_sets o0)))]) h (fun v4 y2 h hk2 hx2 => ?_)
    refine g_eq (lv1 := [(0, .ref a0), (1, .int v1), (2, .int v4)]) (st1 := []) (ws1 := [(a0, .inr (3, [.ref a0_closed, .ref a0_ranks, .ref a0_numbers, .ref a0_sets, .ref a0_rankSizes, .int (q3_size o0), .ref a0_tally, .int (q3_points o0), .int (q3_all o0)])), (a0_closed, .inl (zI Z, 256, .inl (q3_closed o0))), (a0_ranks, .inl (zI Z, 256, .inl (q3_ranks o0))), (a0_sets, .inl (zI Z, 256, .inl (q3_sets o0)))]) rfl rfl rfl rfl ?_
    unfold fX3_graded_L12 at h
    refine g_iload_n C dX3_graded_12 rfl 2 rfl ?_
    refine g_aload_n C dX3_graded_13 rfl 0 rfl ?_
    refine g_get C 3 34 gin3 0 rfl rfl 7 (by decide) mw_1_121 rfl rfl dX3_graded_14 ?_
    refine g_icmp_ge C 67 dX3_graded_17 (by decide) (fun c5 => ?_) (fun c5 => ?_)
    · replace h := it_t c5 h
      obtain ⟨r6, h, hy⟩ := ex_of h
      rw [hx2 r6 hy] at h
      refine g_iinc C (v1 + 1) dX3_graded_67 1 rfl rfl (by decide) [(1, .int (v1 + 1)), (0, .ref a0), (2, .int v4)] rfl ?_
      refine g_goto C 2 dX3_graded_70 (by decide) ?_
      refine g_lv [1, 0] [(0, .ref a0), (1, .int (v1 + 1))] rfl ?_
      exact hk1 (v1 + 1) (Option.some.inj h).symm
    · replace h := it_f c5 h
      refine g_aload_n C dX3_graded_20 rfl 0 rfl ?_
      refine g_aload_n C dX3_graded_21 rfl 0 rfl ?_
      refine g_get C 3 21 gin3 0 rfl rfl 3 (by decide) mw_1_114 rfl rfl dX3_graded_22 ?_
      refine g_iload_n C dX3_graded_25 rfl 1 rfl ?_
      obtain ⟨hi7, h⟩ := ck_of h
      refine g_iald C 3 rfl hi7 dX3_graded_26 ?_
      refine g_iload_n C dX3_graded_27 rfl 2 rfl ?_
      obtain ⟨r8, hr9, h⟩ := bd_of h
      refine g_callVi C (kX3_coverBy l Z a0 a0_closed a0_ranks a0_numbers a0_sets a0_rankSizes a0_tally o0 ((q3_sets o0) (ix v1)) v4 r8 hr9) 0 rfl (ci := 3) rfl rfl myX3_coverBy 93 mw_2_176 rfl [0, 1] [2, 3] [2, 3, 0, 1] (wr := [(a0_ranks, .inl (zI Z, 256, .inl (q3_ranks o0))), (a0_sets, .inl (zI Z, 256, .inl (q3_sets o0)))]) rfl rfl (by decide) (by decide) (by decide) [(a0, .inr (3, [.ref a0_closed, .ref a0_ranks, .ref a0_numbers, .ref a0_sets, .ref a0_rankSizes, .int (q3_size o0), .ref a0_tally, .int (q3_points o0), .int (q3_all o0)])), (a0_closed, .inl (zI Z, 256, .inl (q3_closed o0))), (a0_ranks, .inl (zI Z, 256, .inl (q3_ranks o0))), (a0_sets, .inl (zI Z, 256, .inl (q3_sets o0)))] rfl (by decide) (Nat.le_of_ble_eq_true rfl) (by rw [hR]; exact Nat.le_of_ble_eq_true rfl) (by rw [hR]; exact Nat.le_of_ble_eq_true rfl) ⟨by rw [hR]; exact Nat.le_of_ble_eq_true rfl, by rw [hR]; exact Nat.le_of_ble_eq_true rfl⟩ rfl dX3_graded_28 ?_
      refine g_istore_n C dX3_graded_31 rfl (by decide) [(3, .int r8), (0, .ref a0), (1, .int v1), (2, .int v4)] rfl ?_
      refine g_iload_n C dX3_graded_32 rfl 0 rfl ?_
      refine g_iconst C (-1) dX3_graded_33 (by decide) ?_
      refine g_icmp_eq C 61 dX3_graded_34 (by decide) (fun c10 => ?_) (fun c10 => ?_)
      · replace h := it_t c10 h
        refine g_iinc C (v4 + 1) dX3_graded_61 3 rfl rfl (by decide) [(2, .int (v4 + 1)), (3, .int r8), (0, .ref a0), (1, .int v1)] rfl ?_
        refine g_goto C 12 dX3_graded_64 (by decide) ?_
        refine g_lv [2, 3, 0] [(0, .ref a0), (1, .int v1), (2, .int (v4 + 1))] rfl ?_
        exact hk2 (v4 + 1) (Option.some.inj h).symm
      · replace h := it_f c10 h
        refine g_aload_n C dX3_graded_37 rfl 1 rfl ?_
        refine g_get C 3 15 gin3 0 rfl rfl 1 (by decide) mw_1_110 rfl rfl dX3_graded_38 ?_
        refine g_iload_n C dX3_graded_41 rfl 0 rfl ?_
        obtain ⟨hi11, h⟩ := ck_of h
        refine g_iald C 2 rfl hi11 dX3_graded_42 ?_
        refine g_aload_n C dX3_graded_43 rfl 1 rfl ?_
        refine g_get C 3 15 gin3 0 rfl rfl 1 (by decide) mw_1_110 rfl rfl dX3_graded_44 ?_
        refine g_aload_n C dX3_graded_47 rfl 1 rfl ?_
        refine g_get C 3 21 gin3 0 rfl rfl 3 (by decide) mw_1_114 rfl rfl dX3_graded_48 ?_
        refine g_iload_n C dX3_graded_51 rfl 2 rfl ?_
        obtain ⟨hi12, h⟩ := ck_of h
        refine g_iald C 3 rfl hi12 dX3_graded_52 ?_
        obtain ⟨hi13, h⟩ := ck_of h
        refine g_iald C 2 rfl hi13 dX3_graded_53 ?_
        refine g_iconst C 1 dX3_graded_54 (by decide) ?_
        refine g_iadd C dX3_graded_55 ?_
        refine g_icmp_eq C 61 dX3_graded_56 (by decide) (fun c14 => ?_) (fun c14 => ?_)
        · replace h := it_t c14 h
          refine g_iinc C (v4 + 1) dX3_graded_61 3 rfl rfl (by decide) [(2, .int (v4 + 1)), (3, .int r8), (0, .ref a0), (1, .int v1)] rfl ?_
          refine g_goto C 12 dX3_graded_64 (by decide) ?_
          refine g_lv [2, 3, 0] [(0, .ref a0), (1, .int v1), (2, .int (v4 + 1))] rfl ?_
          exact hk2 (v4 + 1) (Option.some.inj h).symm
        · replace h := it_f c14 h
          obtain ⟨r15, h, hy⟩ := ex_of h
          rw [hx2 r15 hy] at h
          obtain ⟨r16, h, hy⟩ := ex_of h
          rw [hx1 r16 hy] at h
          refine g_iconst C 0 dX3_graded_59 (by decide) ?_
          obtain rfl := Option.some.inj h
          subst hQ
          exact g_zret C rfl (Or.inl rfl) hr hlk dX3_graded_60 [0, 1, 2, 3] rfl (by decide)
def fX3_tallyAlternates_J70 (o0 : OX3) (p1 : Int32) (v3 : Int32 × Int32) : Option ((Int32 × Int32) ⊕ (Int32)) :=
  (fX3_partAfter v3.1 ((q3_all o0) &&& (p1 ^^^ (-1)))).bind fun r8 =>
  (some (.inl (r8, (v3.2 + 1))))
def fX3_tallyAlternates_L20 (o0 : OX3) (p1 : Int32) (r1 : Int32) (v3 : Int32 × Int32) : Option ((Int32 × Int32) ⊕ (Int32)) :=
  if r1 ≤ v3.2 then (ex (some 1))
  else ((fX3_isFace o0 (p1 ||| v3.1)).bind fun r6 =>
  (if r6 = 0 then (fX3_tallyAlternates_J70 o0 p1 v3)
  else (ck (okI (p1 ||| v3.1) 256) (ck (okI (p1 ||| v3.1) 256) (ck (okI p1 256) ((fX3_signOf (((q3_ranks o0) (ix (p1 ||| v3.1))) - ((q3_ranks o0) (ix p1)))).bind fun r14 =>
  (if ((q3_tally o0) (ix (p1 ||| v3.1))) = r14 then (fX3_tallyAlternates_J70 o0 p1 v3)
  else (ex (some 0)))))))))
def fX3_tallyAlternates (o0 : OX3) (p1 : Int32) : Option (Int32) :=
  (fX3_partsOf ((q3_all o0) &&& (p1 ^^^ (-1)))).bind fun r1 =>
  (lp (fX3_tallyAlternates_L20 o0 p1 r1) lpN (0, 0))
theorem myX3_tallyAlternates : MYv yX3_tallyAlternates cX3_tallyAlternates 7 (some .boolean) 1 := ⟨mw_2_225, ms_11, mw_2_226, mw_1_5, ⟨by decide +kernel, by decide +kernel⟩, by decide +kernel⟩
set_option maxRecDepth 100000 in
set_option maxHeartbeats 4000000 in
theorem kX3_tallyAlternates (l : Launch) (Z : GZ) (a0 a0_closed a0_ranks a0_numbers a0_sets a0_rankSizes a0_tally : Nat) (o0 : OX3) (p1 : Int32) (res : Int32) (h : fX3_tallyAlternates o0 p1 = some res) : MI l Z yX3_tallyAlternates cX3_tallyAlternates 7 .boolean 2 40 [.ref a0, .int p1] [(a0, .inr (3, [.ref a0_closed, .ref a0_ranks, .ref a0_numbers, .ref a0_sets, .ref a0_rankSizes, .int (q3_size o0), .ref a0_tally, .int (q3_points o0), .int (q3_all o0)])), (a0_closed, .inl (zI Z, 256, .inl (q3_closed o0))), (a0_ranks, .inl (zI Z, 256, .inl (q3_ranks o0))), (a0_tally, .inl (zI Z, 256, .inl (q3_tally o0)))] res [(a0, .inr (3, [.ref a0_closed, .ref a0_ranks, .ref a0_numbers, .ref a0_sets, .ref a0_rankSizes, .int (q3_size o0), .ref a0_tally, .int (q3_points o0), .int (q3_all o0)])), (a0_closed, .inl (zI Z, 256, .inl (q3_closed o0))), (a0_ranks, .inl (zI Z, 256, .inl (q3_ranks o0))), (a0_tally, .inl (zI Z, 256, .inl (q3_tally o0)))] := by
  refine MI_of (by decide +kernel) (Nat.le_of_ble_eq_true rfl) (fun {p e s m args below meth c} A R hR Q hQ C hr hlk => ?_)
  unfold fX3_tallyAlternates at h
  refine g_lv [0, 1] [(0, .ref a0), (1, .int p1)] rfl ?_
  refine g_aload_n C dX3_tallyAlternates_0 rfl 0 rfl ?_
  refine g_get C 3 37 gin3 0 rfl rfl 8 (by decide) mw_1_122 rfl rfl dX3_tallyAlternates_1 ?_
  refine g_iload_n C dX3_tallyAlternates_4 rfl 1 rfl ?_
  refine g_iconst C (-1) dX3_tallyAlternates_5 (by decide) ?_
  refine g_ixor C dX3_tallyAlternates_6 ?_
  refine g_iand C dX3_tallyAlternates_7 ?_
  refine g_istore_n C dX3_tallyAlternates_8 rfl (by decide) [(2, .int ((q3_all o0) &&& (p1 ^^^ (-1)))), (0, .ref a0), (1, .int p1)] rfl ?_
  refine g_iload_n C dX3_tallyAlternates_9 rfl 0 rfl ?_
  obtain ⟨r1, hr2, h⟩ := bd_of h
  refine g_callSi C (kX3_partsOf l Z ((q3_all o0) &&& (p1 ^^^ (-1))) r1 hr2) myX3_partsOf 80 mw_2_211 rfl [] [0, 1, 2, 3] [0, 1, 2, 3] (wr := [(a0, .inr (3, [.ref a0_closed, .ref a0_ranks, .ref a0_numbers, .ref a0_sets, .ref a0_rankSizes, .int (q3_size o0), .ref a0_tally, .int (q3_points o0), .int (q3_all o0)])), (a0_closed, .inl (zI Z, 256, .inl (q3_closed o0))), (a0_ranks, .inl (zI Z, 256, .inl (q3_ranks o0))), (a0_tally, .inl (zI Z, 256, .inl (q3_tally o0)))]) rfl rfl (by decide) (by decide) (by decide) [(a0, .inr (3, [.ref a0_closed, .ref a0_ranks, .ref a0_numbers, .ref a0_sets, .ref a0_rankSizes, .int (q3_size o0), .ref a0_tally, .int (q3_points o0), .int (q3_all o0)])), (a0_closed, .inl (zI Z, 256, .inl (q3_closed o0))), (a0_ranks, .inl (zI Z, 256, .inl (q3_ranks o0))), (a0_tally, .inl (zI Z, 256, .inl (q3_tally o0)))] rfl (by decide) (Nat.le_of_ble_eq_true rfl) (by rw [hR]; exact Nat.le_of_ble_eq_true rfl) (by rw [hR]; exact Nat.le_of_ble_eq_true rfl) ⟨by rw [hR]; exact Nat.le_of_ble_eq_true rfl, by rw [hR]; exact Nat.le_of_ble_eq_true rfl⟩ rfl dX3_tallyAlternates_10 ?_
  refine g_istore_n C dX3_tallyAlternates_13 rfl (by decide) [(3, .int r1), (2, .int ((q3_all o0) &&& (p1 ^^^ (-1)))), (0, .ref a0), (1, .int p1)] rfl ?_
  refine g_iconst C 0 dX3_tallyAlternates_14 (by decide) ?_
  refine g_istore C dX3_tallyAlternates_15 (by decide) [(4, .int 0), (3, .int r1), (2, .int ((q3_all o0) &&& (p1 ^^^ (-1)))), (0, .ref a0), (1, .int p1)] rfl ?_
  refine g_iconst C 0 dX3_tallyAlternates_17 (by decide) ?_
  refine g_istore C dX3_tallyAlternates_18 (by decide) [(5, .int 0), (4, .int 0), (3, .int r1), (2, .int ((q3_all o0) &&& (p1 ^^^ (-1)))), (0, .ref a0), (1, .int p1)] rfl ?_
  refine g_lv [4, 5, 3, 2, 1, 0] [(0, .ref a0), (1, .int p1), (2, .int ((q3_all o0) &&& (p1 ^^^ (-1)))), (3, .int r1), (4, .int 0), (5, .int 0)] rfl ?_
  refine g_loop (lvf := fun v3 => [(0, .ref a0), (1, .int p1), (2, .int ((q3_all o0) &&& (p1 ^^^ (-1)))), (3, .int r1), (4, .int v3.1), (5, .int v3.2)]) (wsf := fun v3 => [(a0, .inr (3, [.ref a0_closed, .ref a0_ranks, .ref a0_numbers, .ref a0_sets, .ref a0_rankSizes, .int (q3_size o0), .ref a0_tally, .int (q3_points o0), .int (q3_all o0)])), (a0_closed, .inl (zI Z, 256, .inl (q3_closed o0))), (a0_ranks, .inl (zI Z, 256, .inl (q3_ranks o0))), (a0_tally, .inl (zI Z, 256, .inl (q3_tally o0)))]) h (fun v3 y1 h hk1 hx1 => ?_)
  refine g_eq (lv1 := [(0, .ref a0), (1, .int p1), (2, .int ((q3_all o0) &&& (p1 ^^^ (-1)))), (3, .int r1), (4, .int v3.1), (5, .int v3.2)]) (st1 := []) (ws1 := [(a0, .inr (3, [.ref a0_closed, .ref a0_ranks, .ref a0_numbers, .ref a0_sets, .ref a0_rankSizes, .int (q3_size o0), .ref a0_tally, .int (q3_points o0), .int (q3_all o0)])), (a0_closed, .inl (zI Z, 256, .inl (q3_closed o0))), (a0_ranks, .inl (zI Z, 256, .inl (q3_ranks o0))), (a0_tally, .inl (zI Z, 256, .inl (q3_tally o0)))]) rfl rfl rfl rfl ?_
  unfold fX3_tallyAlternates_L20 at h
  refine g_iload C dX3_tallyAlternates_20 5 rfl ?_
  refine g_iload_n C dX3_tallyAlternates_22 rfl 3 rfl ?_
  refine g_icmp_ge C 84 dX3_tallyAlternates_23 (by decide) (fun c4 => ?_) (fun c4 => ?_)
  · replace h := it_t c4 h
    obtain ⟨r5, h, hy⟩ := ex_of h
    rw [hx1 r5 hy] at h
    refine g_iconst C 1 dX3_tallyAlternates_84 (by decide) ?_
    obtain rfl := Option.some.inj h
    subst hQ
    exact g_zret C rfl (Or.inr rfl) hr hlk dX3_tallyAlternates_85 [0, 1, 2, 3] rfl (by decide)
  · replace h := it_f c4 h
    refine g_iload_n C dX3_tallyAlternates_26 rfl 1 rfl ?_
    refine g_iload C dX3_tallyAlternates_27 4 rfl ?_
    refine g_ior C dX3_tallyAlternates_29 ?_
    refine g_istore C dX3_tallyAlternates_30 (by decide) [(6, .int (p1 ||| v3.1)), (0, .ref a0), (1, .int p1), (2, .int ((q3_all o0) &&& (p1 ^^^ (-1)))), (3, .int r1), (4, .int v3.1), (5, .int v3.2)] rfl ?_
    refine g_aload_n C dX3_tallyAlternates_32 rfl 1 rfl ?_
    refine g_iload C dX3_tallyAlternates_33 0 rfl ?_
    obtain ⟨r6, hr7, h⟩ := bd_of h
    refine g_callVi C (kX3_isFace l Z a0 a0_closed a0_ranks a0_numbers a0_sets a0_rankSizes a0_tally o0 (p1 ||| v3.1) r6 hr7) 0 rfl (ci := 3) rfl rfl myX3_isFace 57 mw_1_208 rfl [0, 1] [2, 3] [2, 3, 0, 1] (wr := [(a0_ranks, .inl (zI Z, 256, .inl (q3_ranks o0))), (a0_tally, .inl (zI Z, 256, .inl (q3_tally o0)))]) rfl rfl (by decide) (by decide) (by decide) [(a0, .inr (3, [.ref a0_closed, .ref a0_ranks, .ref a0_numbers, .ref a0_sets, .ref a0_rankSizes, .int (q3_size o0), .ref a0_tally, .int (q3_points o0), .int (q3_all o0)])), (a0_closed, .inl (zI Z, 256, .inl (q3_closed o0))), (a0_ranks, .inl (zI Z, 256, .inl (q3_ranks o0))), (a0_tally, .inl (zI Z, 256, .inl (q3_tally o0)))] rfl (by decide) (Nat.le_of_ble_eq_true rfl) (by rw [hR]; exact Nat.le_of_ble_eq_true rfl) (by rw [hR]; exact Nat.le_of_ble_eq_true rfl) ⟨by rw [hR]; exact Nat.le_of_ble_eq_true rfl, by rw [hR]; exact Nat.le_of_ble_eq_true rfl⟩ rfl dX3_tallyAlternates_35 ?_
    have hj70 : fX3_tallyAlternates_J70 o0 p1 v3 = some y1 → Gw p l e R s m args below meth c 7 Z A Q 0 0 70 [(0, .ref a0), (1, .int p1), (2, .int ((q3_all o0) &&& (p1 ^^^ (-1)))), (3, .int r1), (4, .int v3.1), (5, .int v3.2)] [] [(a0, .inr (3, [.ref a0_closed, .ref a0_ranks, .ref a0_numbers, .ref a0_sets, .ref a0_rankSizes, .int (q3_size o0), .ref a0_tally, .int (q3_points o0), .int (q3_all o0)])), (a0_closed, .inl (zI Z, 256, .inl (q3_closed o0))), (a0_ranks, .inl (zI Z, 256, .inl (q3_ranks o0))), (a0_tally, .inl (zI Z, 256, .inl (q3_tally o0)))] := by
      intro h
      unfold fX3_tallyAlternates_J70 at h
      refine g_iload C dX3_tallyAlternates_70 4 rfl ?_
      refine g_iload_n C dX3_tallyAlternates_72 rfl 2 rfl ?_
      obtain ⟨r8, hr9, h⟩ := bd_of h
      refine g_callSi C (kX3_partAfter l Z v3.1 ((q3_all o0) &&& (p1 ^^^ (-1))) r8 hr9) myX3_partAfter 83 mw_2_220 rfl [] [0, 1, 2, 3] [0, 1, 2, 3] (wr := [(a0, .inr (3, [.ref a0_closed, .ref a0_ranks, .ref a0_numbers, .ref a0_sets, .ref a0_rankSizes, .int (q3_size o0), .ref a0_tally, .int (q3_points o0), .int (q3_all o0)])), (a0_closed, .inl (zI Z, 256, .inl (q3_closed o0))), (a0_ranks, .inl (zI Z, 256, .inl (q3_ranks o0))), (a0_tally, .inl (zI Z, 256, .inl (q3_tally o0)))]) rfl rfl (by decide) (by decide) (by decide) [(a0, .inr (3, [.ref a0_closed, .ref a0_ranks, .ref a0_numbers, .ref a0_sets, .ref a0_rankSizes, .int (q3_size o0), .ref a0_tally, .int (q3_points o0), .int (q3_all o0)])), (a0_closed, .inl (zI Z, 256, .inl (q3_closed o0))), (a0_ranks, .inl (zI Z, 256, .inl (q3_ranks o0))), (a0_tally, .inl (zI Z, 256, .inl (q3_tally o0)))] rfl (by decide) (Nat.le_of_ble_eq_true rfl) (by rw [hR]; exact Nat.le_of_ble_eq_true rfl) (by rw [hR]; exact Nat.le_of_ble_eq_true rfl) ⟨by rw [hR]; exact Nat.le_of_ble_eq_true rfl, by rw [hR]; exact Nat.le_of_ble_eq_true rfl⟩ rfl dX3_tallyAlternates_73 ?_
      refine g_istore C dX3_tallyAlternates_76 (by decide) [(4, .int r8), (0, .ref a0), (1, .int p1), (2, .int ((q3_all o0) &&& (p1 ^^^ (-1)))), (3, .int r1), (5, .int v3.2)] rfl ?_
      refine g_iinc C (v3.2 + 1) dX3_tallyAlternates_78 5 rfl rfl (by decide) [(5, .int (v3.2 + 1)), (4, .int r8), (0, .ref a0), (1, .int p1), (2, .int ((q3_all o0) &&& (p1 ^^^ (-1)))), (3, .int r1)] rfl ?_
      refine g_goto C 20 dX3_tallyAlternates_81 (by decide) ?_
      refine g_lv [2, 3, 4, 5, 1, 0] [(0, .ref a0), (1, .int p1), (2, .int ((q3_all o0) &&& (p1 ^^^ (-1)))), (3, .int r1), (4, .int r8), (5, .int (v3.2 + 1))] rfl ?_
      exact hk1 (r8, (v3.2 + 1)) (Option.some.inj h).symm
    refine g_if_eq C 70 dX3_tallyAlternates_38 (by decide) (fun c10 => ?_) (fun c10 => ?_)
    · replace h := it_t c10 h
      refine g_lv [1, 2, 3, 4, 5, 6] [(0, .ref a0), (1, .int p1), (2, .int ((q3_all o0) &&& (p1 ^^^ (-1)))), (3, .int r1), (4, .int v3.1), (5, .int v3.2)] rfl ?_
      exact hj70 h
    · replace h := it_f c10 h
      refine g_aload_n C dX3_tallyAlternates_41 rfl 1 rfl ?_
      refine g_get C 3 31 gin3 0 rfl rfl 6 (by decide) mw_1_120 rfl rfl dX3_tallyAlternates_42 ?_
      refine g_iload C dX3_tallyAlternates_45 0 rfl ?_
      obtain ⟨hi11, h⟩ := ck_of h
      refine g_iald C 3 rfl hi11 dX3_tallyAlternates_47 ?_
      refine g_aload_n C dX3_tallyAlternates_48 rfl 1 rfl ?_
      refine g_get C 3 15 gin3 0 rfl rfl 1 (by decide) mw_1_110 rfl rfl dX3_tallyAlternates_49 ?_
      refine g_iload C dX3_tallyAlternates_52 0 rfl ?_
      obtain ⟨hi12, h⟩ := ck_of h
      refine g_iald C 2 rfl hi12 dX3_tallyAlternates_54 ?_
      refine g_aload_n C dX3_tallyAlternates_55 rfl 1 rfl ?_
      refine g_get C 3 15 gin3 0 rfl rfl 1 (by decide) mw_1_110 rfl rfl dX3_tallyAlternates_56 ?_
      refine g_iload_n C dX3_tallyAlternates_59 rfl 2 rfl ?_
      obtain ⟨hi13, h⟩ := ck_of h
      refine g_iald C 2 rfl hi13 dX3_tallyAlternates_60 ?_
      refine g_isub C dX3_tallyAlternates_61 ?_
      obtain ⟨r14, hr15, h⟩ := bd_of h
      refine g_callSi C (kX3_signOf l Z (((q3_ranks o0) (ix (p1 ||| v3.1))) - ((q3_ranks o0) (ix p1))) r14 hr15) myX3_signOf 99 mw_2_192 rfl [] [0, 1, 2, 3] [0, 1, 2, 3] (wr := [(a0, .inr (3, [.ref a0_closed, .ref a0_ranks, .ref a0_numbers, .ref a0_sets, .ref a0_rankSizes, .int (q3_size o0), .ref a0_tally, .int (q3_points o0), .int (q3_all o0)])), (a0_closed, .inl (zI Z, 256, .inl (q3_closed o0))), (a0_ranks, .inl (zI Z, 256, .inl (q3_ranks o0))), (a0_tally, .inl (zI Z, 256, .inl (q3_tally o0)))]) rfl rfl (by decide) (by decide) (by decide) [(a0, .inr (3, [.ref a0_closed, .ref a0_ranks, .ref a0_numbers, .ref a0_sets, .ref a0_rankSizes, .int (q3_size o0), .ref a0_tally, .int (q3_points o0), .int (q3_all o0)])), (a0_closed, .inl (zI Z, 256, .inl (q3_closed o0))), (a0_ranks, .inl (zI Z, 256, .inl (q3_ranks o0))), (a0_tally, .inl (zI Z, 256, .inl (q3_tally o0)))] rfl (by decide) (Nat.le_of_ble_eq_true rfl) (by rw [hR]; exact Nat.le_of_ble_eq_true rfl) (by rw [hR]; exact Nat.le_of_ble_eq_true rfl) ⟨by rw [hR]; exact Nat.le_of_ble_eq_true rfl, by rw [hR]; exact Nat.le_of_ble_eq_true rfl⟩ rfl dX3_tallyAlternates_62 ?_
      refine g_icmp_eq C 70 dX3_tallyAlternates_65 (by decide) (fun c16 => ?_) (fun c16 => ?_)
      · replace h := it_t c16 h
        refine g_lv [1, 2, 3, 4, 5, 6] [(0, .ref a0), (1, .int p1), (2, .int ((q3_all o0) &&& (p1 ^^^ (-1)))), (3, .int r1), (4, .int v3.1), (5, .int v3.2)] rfl ?_
        exact hj70 h
      · replace h := it_f c16 h
        obtain ⟨r17, h, hy⟩ := ex_of h
        rw [hx1 r17 hy] at h
        refine g_iconst C 0 dX3_tallyAlternates_68 (by decide) ?_
        obtain rfl := Option.some.inj h
        subst hQ
        exact g_zret C rfl (Or.inl rfl) hr hlk dX3_tallyAlternates_69 [0, 1, 2, 3] rfl (by decide)
def fX3_mobiusAlternates_L2 (o0 : OX3) (v1 : Int32 × (Nat → Int32)) : Option ((Int32 × (Nat → Int32)) ⊕ (Int32 × OX3)) :=
  if (q3_size o0) ≤ v1.1 then (ex (some (1, (s3_tally o0 v1.2))))
  else (ck (okI v1.1 256) ((fX3_tallyMobius (s3_tally o0 v1.2) ((q3_sets o0) (ix v1.1)) (q3_all o0)).bind fun r5 =>
  (ck (okI v1.1 256) ((fX3_tallyAlternates (s3_tally o0 (q3_tally r5)) ((q3_sets o0) (ix v1.1))).bind fun r8 =>
  (if r8 = 0 then (ex (some (0, (s3_tally o0 (q3_tally r5)))))
  else (some (.inl ((v1.1 + 1), (q3_tally r5)))))))))
def fX3_mobiusAlternates (o0 : OX3) : Option (Int32 × OX3) :=
  lp (fX3_mobiusAlternates_L2 o0) lpN (0, (q3_tally o0))
theorem myX3_mobiusAlternates : MYv yX3_mobiusAlternates cX3_mobiusAlternates 2 (some .boolean) 0 := ⟨mw_2_200, mw_2_201, mw_2_202, mw_1_5, ⟨by decide +kernel, by decide +kernel⟩, by decide +kernel⟩
set_option maxRecDepth 100000 in
set_option maxHeartbeats 4000000 in
theorem kX3_mobiusAlternates (l : Launch) (Z : GZ) (a0 a0_closed a0_ranks a0_numbers a0_sets a0_rankSizes a0_tally : Nat) (o0 : OX3) (res : Int32 × OX3) (h : fX3_mobiusAlternates o0 = some res) : MI l Z yX3_mobiusAlternates cX3_mobiusAlternates 2 .boolean 4 92 [.ref a0] [(a0, .inr (3, [.ref a0_closed, .ref a0_ranks, .ref a0_numbers, .ref a0_sets, .ref a0_rankSizes, .int (q3_size o0), .ref a0_tally, .int (q3_points o0), .int (q3_all o0)])), (a0_closed, .inl (zI Z, 256, .inl (q3_closed o0))), (a0_ranks, .inl (zI Z, 256, .inl (q3_ranks o0))), (a0_sets, .inl (zI Z, 256, .inl (q3_sets o0))), (a0_tally, .inl (zI Z, 256, .inl (q3_tally o0)))] res.1 [(a0, .inr (3, [.ref a0_closed, .ref a0_ranks, .ref a0_numbers, .ref a0_sets, .ref a0_rankSizes, .int (q3_size o0), .ref a0_tally, .int (q3_points o0), .int (q3_all o0)])), (a0_closed, .inl (zI Z, 256, .inl (q3_closed o0))), (a0_ranks, .inl (zI Z, 256, .inl (q3_ranks o0))), (a0_sets, .inl (zI Z, 256, .inl (q3_sets o0))), (a0_tally, .inl (zI Z, 256, .inl (q3_tally res.2)))] := by
  refine MI_of (by decide +kernel) (Nat.le_of_ble_eq_true rfl) (fun {p e s m args below meth c} A R hR Q hQ C hr hlk => ?_)
  unfold fX3_mobiusAlternates at h
  refine g_lv [0] [(0, .ref a0)] rfl ?_
  refine g_iconst C 0 dX3_mobiusAlternates_0 (by decide) ?_
  refine g_istore_n C dX3_mobiusAlternates_1 rfl (by decide) [(1, .int 0), (0, .ref a0)] rfl ?_
  refine g_lv [1, 0] [(0, .ref a0), (1, .int 0)] rfl ?_
  refine g_loop (lvf := fun v1 => [(0, .ref a0), (1, .int v1.1)]) (wsf := fun v1 => [(a0, .inr (3, [.ref a0_closed, .ref a0_ranks, .ref a0_numbers, .ref a0_sets, .ref a0_rankSizes, .int (q3_size o0), .ref a0_tally, .int (q3_points o0), .int (q3_all o0)])), (a0_closed, .inl (zI Z, 256, .inl (q3_closed o0))), (a0_ranks, .inl (zI Z, 256, .inl (q3_ranks o0))), (a0_sets, .inl (zI Z, 256, .inl (q3_sets o0))), (a0_tally, .inl (zI Z, 256, .inl v1.2))]) h (fun v1 y1 h hk1 hx1 => ?_)
  refine g_eq (lv1 := [(0, .ref a0), (1, .int v1.1)]) (st1 := []) (ws1 := [(a0, .inr (3, [.ref a0_closed, .ref a0_ranks, .ref a0_numbers, .ref a0_sets, .ref a0_rankSizes, .int (q3_size o0), .ref a0_tally, .int (q3_points o0), .int (q3_all o0)])), (a0_closed, .inl (zI Z, 256, .inl (q3_closed o0))), (a0_ranks, .inl (zI Z, 256, .inl (q3_ranks o0))), (a0_sets, .inl (zI Z, 256, .inl (q3_sets o0))), (a0_tally, .inl (zI Z, 256, .inl v1.2))]) rfl rfl rfl rfl ?_
  unfold fX3_mobiusAlternates_L2 at h
  refine g_iload_n C dX3_mobiusAlternates_2 rfl 1 rfl ?_
  refine g_aload_n C dX3_mobiusAlternates_3 rfl 0 rfl ?_
  refine g_get C 3 27 gin3 0 rfl rfl 5 (by decide) mw_1_118 rfl rfl dX3_mobiusAlternates_4 ?_
  refine g_icmp_ge C 45 dX3_mobiusAlternates_7 (by decide) (fun c2 => ?_) (fun c2 => ?_)
  · replace h := it_t c2 h
    obtain ⟨r3, h, hy⟩ := ex_of h
    rw [hx1 r3 hy] at h
    refine g_iconst C 1 dX3_mobiusAlternates_45 (by decide) ?_
    obtain rfl := Option.some.inj h
    subst hQ
    exact g_zret C rfl (Or.inr rfl) hr hlk dX3_mobiusAlternates_46 [0, 1, 2, 3, 4] rfl (by decide)
  · replace h := it_f c2 h
    refine g_aload_n C dX3_mobiusAlternates_10 rfl 0 rfl ?_
    refine g_aload_n C dX3_mobiusAlternates_11 rfl 0 rfl ?_
    refine g_get C 3 21 gin3 0 rfl rfl 3 (by decide) mw_1_114 rfl rfl dX3_mobiusAlternates_12 ?_
    refine g_iload_n C dX3_mobiusAlternates_15 rfl 1 rfl ?_
    obtain ⟨hi4, h⟩ := ck_of h
    refine g_iald C 3 rfl hi4 dX3_mobiusAlternates_16 ?_
    refine g_aload_n C dX3_mobiusAlternates_17 rfl 0 rfl ?_
    refine g_get C 3 37 gin3 0 rfl rfl 8 (by decide) mw_1_122 rfl rfl dX3_mobiusAlternates_18 ?_
    obtain ⟨r5, hr6, h⟩ := bd_of h
    refine g_callVv C (kX3_tallyMobius l Z a0 a0_closed a0_ranks a0_numbers a0_sets a0_rankSizes a0_tally (s3_tally o0 v1.2) ((q3_sets o0) (ix v1.1)) (q3_all o0) r5 hr6) 0 rfl (ci := 3) rfl rfl myX3_tallyMobius 96 mw_2_203 rfl [0, 1, 4] [2, 3] [2, 3, 0, 1, 4] (wr := [(a0_ranks, .inl (zI Z, 256, .inl (q3_ranks o0))), (a0_sets, .inl (zI Z, 256, .inl (q3_sets o0)))]) rfl rfl (by decide) (by decide) (by decide) [(a0, .inr (3, [.ref a0_closed, .ref a0_ranks, .ref a0_numbers, .ref a0_sets, .ref a0_rankSizes, .int (q3_size o0), .ref a0_tally, .int (q3_points o0), .int (q3_all o0)])), (a0_closed, .inl (zI Z, 256, .inl (q3_closed o0))), (a0_ranks, .inl (zI Z, 256, .inl (q3_ranks o0))), (a0_sets, .inl (zI Z, 256, .inl (q3_sets o0))), (a0_tally, .inl (zI Z, 256, .inl (q3_tally r5)))] rfl (by decide) (Nat.le_of_ble_eq_true rfl) (by rw [hR]; exact Nat.le_of_ble_eq_true rfl) (by rw [hR]; exact Nat.le_of_ble_eq_true rfl) ⟨by rw [hR]; exact Nat.le_of_ble_eq_true rfl, by rw [hR]; exact Nat.le_of_ble_eq_true rfl⟩ rfl dX3_mobiusAlternates_21 ?_
    refine g_aload_n C dX3_mobiusAlternates_24 rfl 0 rfl ?_
    refine g_aload_n C dX3_mobiusAlternates_25 rfl 0 rfl ?_
    refine g_get C 3 21 gin3 0 rfl rfl 3 (by decide) mw_1_114 rfl rfl dX3_mobiusAlternates_26 ?_
    refine g_iload_n C dX3_mobiusAlternates_29 rfl 1 rfl ?_
    obtain ⟨hi7, h⟩ := ck_of h
    refine g_iald C 3 rfl hi7 dX3_mobiusAlternates_30 ?_
    obtain ⟨r8, hr9, h⟩ := bd_of h
    refine g_callVi C (kX3_tallyAlternates l Z a0 a0_closed a0_ranks a0_numbers a0_sets a0_rankSizes a0_tally (s3_tally o0 (q3_tally r5)) ((q3_sets o0) (ix v1.1)) r8 hr9) 0 rfl (ci := 3) rfl rfl myX3_tallyAlternates 102 mw_2_223 rfl [0, 1, 2, 4] [3] [1, 2, 3, 0, 4] (wr := [(a0_sets, .inl (zI Z, 256, .inl (q3_sets o0)))]) rfl rfl (by decide) (by decide) (by decide) [(a0, .inr (3, [.ref a0_closed, .ref a0_ranks, .ref a0_numbers, .ref a0_sets, .ref a0_rankSizes, .int (q3_size o0), .ref a0_tally, .int (q3_points o0), .int (q3_all o0)])), (a0_closed, .inl (zI Z, 256, .inl (q3_closed o0))), (a0_ranks, .inl (zI Z, 256, .inl (q3_ranks o0))), (a0_sets, .inl (zI Z, 256, .inl (q3_sets o0))), (a0_tally, .inl (zI Z, 256, .inl (q3_tally r5)))] rfl (by decide) (Nat.le_of_ble_eq_true rfl) (by rw [hR]; exact Nat.le_of_ble_eq_true rfl) (by rw [hR]; exact Nat.le_of_ble_eq_true rfl) ⟨by rw [hR]; exact Nat.le_of_ble_eq_true rfl, by rw [hR]; exact Nat.le_of_ble_eq_true rfl⟩ rfl dX3_mobiusAlternates_31 ?_
    refine g_if_ne C 39 dX3_mobiusAlternates_34 (by decide) (fun c10 => ?_) (fun c10 => ?_)
    · replace h := it_f c10 h
      refine g_iinc C (v1.1 + 1) dX3_mobiusAlternates_39 1 rfl rfl (by decide) [(1, .int (v1.1 + 1)), (0, .ref a0)] rfl ?_
      refine g_goto C 2 dX3_mobiusAlternates_42 (by decide) ?_
      refine g_lv [1, 0] [(0, .ref a0), (1, .int (v1.1 + 1))] rfl ?_
      exact hk1 ((v1.1 + 1), (q3_tally r5)) (Option.some.inj h).symm
    · replace h := it_t c10 h
      obtain ⟨r11, h, hy⟩ := ex_of h
      rw [hx1 r11 hy] at h
      refine g_iconst C 0 dX3_mobiusAlternates_37 (by decide) ?_
      obtain rfl := Option.some.inj h
      subst hQ
      exact g_zret C rfl (Or.inl rfl) hr hlk dX3_mobiusAlternates_38 [0, 1, 2, 3, 4] rfl (by decide)
def fX3_evenMinusOdd_L4 (o0 : OX3) (v1 : Int32 × Int32) : Option ((Int32 × Int32) ⊕ (Int32)) :=
  if 8 < v1.2 then (ex (some v1.1))
  else ((fX3_signOf v1.2).bind fun r4 =>
  (ck (okI v1.2 9) (some (.inl ((v1.1 + (r4 * ((q3_rankSizes o0) (ix v1.2)))), (v1.2 + 1))))))
def fX3_evenMinusOdd (o0 : OX3) : Option (Int32) :=
  lp (fX3_evenMinusOdd_L4 o0) lpN (0, 0)
theorem myX3_evenMinusOdd : MYv yX3_evenMinusOdd cX3_evenMinusOdd 3 (some .int) 0 := ⟨mw_2_189, mw_2_190, mw_2_191, mw_1_5, ⟨by decide +kernel, by decide +kernel⟩, by decide +kernel⟩
set_option maxRecDepth 100000 in
set_option maxHeartbeats 4000000 in
theorem kX3_evenMinusOdd (l : Launch) (Z : GZ) (a0 a0_closed a0_ranks a0_numbers a0_sets a0_rankSizes a0_tally : Nat) (o0 : OX3) (res : Int32) (h : fX3_evenMinusOdd o0 = some res) : MI l Z yX3_evenMinusOdd cX3_evenMinusOdd 3 .int 1 20 [.ref a0] [(a0, .inr (3, [.ref a0_closed, .ref a0_ranks, .ref a0_numbers, .ref a0_sets, .ref a0_rankSizes, .int (q3_size o0), .ref a0_tally, .int (q3_points o0), .int (q3_all o0)])), (a0_rankSizes, .inl (zI Z, 9, .inl (q3_rankSizes o0)))] res [(a0, .inr (3, [.ref a0_closed, .ref a0_ranks, .ref a0_numbers, .ref a0_sets, .ref a0_rankSizes, .int (q3_size o0), .ref a0_tally, .int (q3_points o0), .int (q3_all o0)])), (a0_rankSizes, .inl (zI Z, 9, .inl (q3_rankSizes o0)))] := by
  refine MI_of (by decide +kernel) (Nat.le_of_ble_eq_true rfl) (fun {p e s m args below meth c} A R hR Q hQ C hr hlk => ?_)
  unfold fX3_evenMinusOdd at h
  refine g_lv [0] [(0, .ref a0)] rfl ?_
  refine g_iconst C 0 dX3_evenMinusOdd_0 (by decide) ?_
  refine g_istore_n C dX3_evenMinusOdd_1 rfl (by decide) [(1, .int 0), (0, .ref a0)] rfl ?_
  refine g_iconst C 0 dX3_evenMinusOdd_2 (by decide) ?_
  refine g_istore_n C dX3_evenMinusOdd_3 rfl (by decide) [(2, .int 0), (1, .int 0), (0, .ref a0)] rfl ?_
  refine g_lv [2, 1, 0] [(0, .ref a0), (1, .int 0), (2, .int 0)] rfl ?_
  refine g_loop (lvf := fun v1 => [(0, .ref a0), (1, .int v1.1), (2, .int v1.2)]) (wsf := fun v1 => [(a0, .inr (3, [.ref a0_closed, .ref a0_ranks, .ref a0_numbers, .ref a0_sets, .ref a0_rankSizes, .int (q3_size o0), .ref a0_tally, .int (q3_points o0), .int (q3_all o0)])), (a0_rankSizes, .inl (zI Z, 9, .inl (q3_rankSizes o0)))]) h (fun v1 y1 h hk1 hx1 => ?_)
  refine g_eq (lv1 := [(0, .ref a0), (1, .int v1.1), (2, .int v1.2)]) (st1 := []) (ws1 := [(a0, .inr (3, [.ref a0_closed, .ref a0_ranks, .ref a0_numbers, .ref a0_sets, .ref a0_rankSizes, .int (q3_size o0), .ref a0_tally, .int (q3_points o0), .int (q3_all o0)])), (a0_rankSizes, .inl (zI Z, 9, .inl (q3_rankSizes o0)))]) rfl rfl rfl rfl ?_
  unfold fX3_evenMinusOdd_L4 at h
  refine g_iload_n C dX3_evenMinusOdd_4 rfl 2 rfl ?_
  refine g_bipush C 8 dX3_evenMinusOdd_5 (by decide) ?_
  refine g_icmp_gt C 30 dX3_evenMinusOdd_7 (by decide) (fun c2 => ?_) (fun c2 => ?_)
  · replace h := it_t c2 h
    obtain ⟨r3, h, hy⟩ := ex_of h
    rw [hx1 r3 hy] at h
    refine g_iload_n C dX3_evenMinusOdd_30 rfl 1 rfl ?_
    obtain rfl := Option.some.inj h
    subst hQ
    exact g_iret C rfl hr hlk dX3_evenMinusOdd_31 [0, 1] rfl (by decide)
  · replace h := it_f c2 h
    refine g_iload_n C dX3_evenMinusOdd_10 rfl 1 rfl ?_
    refine g_iload_n C dX3_evenMinusOdd_11 rfl 2 rfl ?_
    obtain ⟨r4, hr5, h⟩ := bd_of h
    refine g_callSi C (kX3_signOf l Z v1.2 r4 hr5) myX3_signOf 99 mw_2_192 rfl [] [0, 1] [0, 1] (wr := [(a0, .inr (3, [.ref a0_closed, .ref a0_ranks, .ref a0_numbers, .ref a0_sets, .ref a0_rankSizes, .int (q3_size o0), .ref a0_tally, .int (q3_points o0), .int (q3_all o0)])), (a0_rankSizes, .inl (zI Z, 9, .inl (q3_rankSizes o0)))]) rfl rfl (by decide) (by decide) (by decide) [(a0, .inr (3, [.ref a0_closed, .ref a0_ranks, .ref a0_numbers, .ref a0_sets, .ref a0_rankSizes, .int (q3_size o0), .ref a0_tally, .int (q3_points o0), .int (q3_all o0)])), (a0_rankSizes, .inl (zI Z, 9, .inl (q3_rankSizes o0)))] rfl (by decide) (Nat.le_of_ble_eq_true rfl) (by rw [hR]; exact Nat.le_of_ble_eq_true rfl) (by rw [hR]; exact Nat.le_of_ble_eq_true rfl) ⟨by rw [hR]; exact Nat.le_of_ble_eq_true rfl, by rw [hR]; exact Nat.le_of_ble_eq_true rfl⟩ rfl dX3_evenMinusOdd_12 ?_
    refine g_aload_n C dX3_evenMinusOdd_15 rfl 0 rfl ?_
    refine g_get C 3 24 gin3 0 rfl rfl 4 (by decide) mw_1_116 rfl rfl dX3_evenMinusOdd_16 ?_
    refine g_iload_n C dX3_evenMinusOdd_19 rfl 2 rfl ?_
    obtain ⟨hi6, h⟩ := ck_of h
    refine g_iald C 1 rfl hi6 dX3_evenMinusOdd_20 ?_
    refine g_imul C dX3_evenMinusOdd_21 ?_
    refine g_iadd C dX3_evenMinusOdd_22 ?_
    refine g_istore_n C dX3_evenMinusOdd_23 rfl (by decide) [(1, .int (v1.1 + (r4 * ((q3_rankSizes o0) (ix v1.2))))), (0, .ref a0), (2, .int v1.2)] rfl ?_
    refine g_iinc C (v1.2 + 1) dX3_evenMinusOdd_24 2 rfl rfl (by decide) [(2, .int (v1.2 + 1)), (1, .int (v1.1 + (r4 * ((q3_rankSizes o0) (ix v1.2))))), (0, .ref a0)] rfl ?_
    refine g_goto C 4 dX3_evenMinusOdd_27 (by decide) ?_
    refine g_lv [2, 1, 0] [(0, .ref a0), (1, .int (v1.1 + (r4 * ((q3_rankSizes o0) (ix v1.2))))), (2, .int (v1.2 + 1))] rfl ?_
    exact hk1 ((v1.1 + (r4 * ((q3_rankSizes o0) (ix v1.2)))), (v1.2 + 1)) (Option.some.inj h).symm
def fX3_cubicBelow_L2 (o0 : OX3) (v1 : Int32) : Option ((Int32) ⊕ (Int32)) :=
  if (q3_size o0) ≤ (v1 + 1) then (ex (some 1))
  else (ck (okI v1 256) ((fX3_countBetween o0 ((q3_sets o0) (ix 0)) ((q3_sets o0) (ix v1))).bind fun r5 =>
  (ck (okI v1 256) (ck (okI ((q3_sets o0) (ix v1)) 256) (if r5 = (jshl 1 ((q3_ranks o0) (ix ((q3_sets o0) (ix v1))))) then (some (.inl (v1 + 1)))
  else (ex (some 0)))))))
def fX3_cubicBelow (o0 : OX3) : Option (Int32) :=
  lp (fX3_cubicBelow_L2 o0) lpN 0
theorem myX3_cubicBelow : MYv yX3_cubicBelow cX3_cubicBelow 2 (some .boolean) 0 := ⟨mw_2_232, mw_2_233, mw_2_234, mw_1_5, ⟨by decide +kernel, by decide +kernel⟩, by decide +kernel⟩
set_option maxRecDepth 100000 in
set_option maxHeartbeats 4000000 in
theorem kX3_cubicBelow (l : Launch) (Z : GZ) (a0 a0_closed a0_ranks a0_numbers a0_sets a0_rankSizes a0_tally : Nat) (o0 : OX3) (res : Int32) (h : fX3_cubicBelow o0 = some res) : MI l Z yX3_cubicBelow cX3_cubicBelow 2 .boolean 3 67 [.ref a0] [(a0, .inr (3, [.ref a0_closed, .ref a0_ranks, .ref a0_numbers, .ref a0_sets, .ref a0_rankSizes, .int (q3_size o0), .ref a0_tally, .int (q3_points o0), .int (q3_all o0)])), (a0_closed, .inl (zI Z, 256, .inl (q3_closed o0))), (a0_ranks, .inl (zI Z, 256, .inl (q3_ranks o0))), (a0_sets, .inl (zI Z, 256, .inl (q3_sets o0)))] res [(a0, .inr (3, [.ref a0_closed, .ref a0_ranks, .ref a0_numbers, .ref a0_sets, .ref a0_rankSizes, .int (q3_size o0), .ref a0_tally, .int (q3_points o0), .int (q3_all o0)])), (a0_closed, .inl (zI Z, 256, .inl (q3_closed o0))), (a0_ranks, .inl (zI Z, 256, .inl (q3_ranks o0))), (a0_sets, .inl (zI Z, 256, .inl (q3_sets o0)))] := by
  refine MI_of (by decide +kernel) (Nat.le_of_ble_eq_true rfl) (fun {p e s m args below meth c} A R hR Q hQ C hr hlk => ?_)
  unfold fX3_cubicBelow at h
  refine g_lv [0] [(0, .ref a0)] rfl ?_
  refine g_iconst C 0 dX3_cubicBelow_0 (by decide) ?_
  refine g_istore_n C dX3_cubicBelow_1 rfl (by decide) [(1, .int 0), (0, .ref a0)] rfl ?_
  refine g_lv [1, 0] [(0, .ref a0), (1, .int 0)] rfl ?_
  refine g_loop (lvf := fun v1 => [(0, .ref a0), (1, .int v1)]) (wsf := fun v1 => [(a0, .inr (3, [.ref a0_closed, .ref a0_ranks, .ref a0_numbers, .ref a0_sets, .ref a0_rankSizes, .int (q3_size o0), .ref a0_tally, .int (q3_points o0), .int (q3_all o0)])), (a0_closed, .inl (zI Z, 256, .inl (q3_closed o0))), (a0_ranks, .inl (zI Z, 256, .inl (q3_ranks o0))), (a0_sets, .inl (zI Z, 256, .inl (q3_sets o0)))]) h (fun v1 y1 h hk1 hx1 => ?_)
  refine g_eq (lv1 := [(0, .ref a0), (1, .int v1)]) (st1 := []) (ws1 := [(a0, .inr (3, [.ref a0_closed, .ref a0_ranks, .ref a0_numbers, .ref a0_sets, .ref a0_rankSizes, .int (q3_size o0), .ref a0_tally, .int (q3_points o0), .int (q3_all o0)])), (a0_closed, .inl (zI Z, 256, .inl (q3_closed o0))), (a0_ranks, .inl (zI Z, 256, .inl (q3_ranks o0))), (a0_sets, .inl (zI Z, 256, .inl (q3_sets o0)))]) rfl rfl rfl rfl ?_
  unfold fX3_cubicBelow_L2 at h
  refine g_iload_n C dX3_cubicBelow_2 rfl 1 rfl ?_
  refine g_iconst C 1 dX3_cubicBelow_3 (by decide) ?_
  refine g_iadd C dX3_cubicBelow_4 ?_
  refine g_aload_n C dX3_cubicBelow_5 rfl 0 rfl ?_
  refine g_get C 3 27 gin3 0 rfl rfl 5 (by decide) mw_1_118 rfl rfl dX3_cubicBelow_6 ?_
  refine g_icmp_ge C 52 dX3_cubicBelow_9 (by decide) (fun c2 => ?_) (fun c2 => ?_)
  · replace h := it_t c2 h
    obtain ⟨r3, h, hy⟩ := ex_of h
    rw [hx1 r3 hy] at h
    refine g_iconst C 1 dX3_cubicBelow_52 (by decide) ?_
    obtain rfl := Option.some.inj h
    subst hQ
    exact g_zret C rfl (Or.inr rfl) hr hlk dX3_cubicBelow_53 [0, 1, 2, 3] rfl (by decide)
  · replace h := it_f c2 h
    refine g_aload_n C dX3_cubicBelow_12 rfl 0 rfl ?_
    refine g_aload_n C dX3_cubicBelow_13 rfl 0 rfl ?_
    refine g_get C 3 21 gin3 0 rfl rfl 3 (by decide) mw_1_114 rfl rfl dX3_cubicBelow_14 ?_
    refine g_iconst C 0 dX3_cubicBelow_17 (by decide) ?_
    refine g_iald C 3 rfl (by decide) dX3_cubicBelow_18 ?_
    refine g_aload_n C dX3_cubicBelow_19 rfl 0 rfl ?_
    refine g_get C 3 21 gin3 0 rfl rfl 3 (by decide) mw_1_114 rfl rfl dX3_cubicBelow_20 ?_
    refine g_iload_n C dX3_cubicBelow_23 rfl 1 rfl ?_
    obtain ⟨hi4, h⟩ := ck_of h
    refine g_iald C 3 rfl hi4 dX3_cubicBelow_24 ?_
    obtain ⟨r5, hr6, h⟩ := bd_of h
    refine g_callVi C (kX3_countBetween l Z a0 a0_closed a0_ranks a0_numbers a0_sets a0_rankSizes a0_tally o0 ((q3_sets o0) (ix 0)) ((q3_sets o0) (ix v1)) r5 hr6) 0 rfl (ci := 3) rfl rfl myX3_countBetween 105 mw_2_235 rfl [0, 1] [2, 3] [2, 3, 0, 1] (wr := [(a0_ranks, .inl (zI Z, 256, .inl (q3_ranks o0))), (a0_sets, .inl (zI Z, 256, .inl (q3_sets o0)))]) rfl rfl (by decide) (by decide) (by decide) [(a0, .inr (3, [.ref a0_closed, .ref a0_ranks, .ref a0_numbers, .ref a0_sets, .ref a0_rankSizes, .int (q3_size o0), .ref a0_tally, .int (q3_points o0), .int (q3_all o0)])), (a0_closed, .inl (zI Z, 256, .inl (q3_closed o0))), (a0_ranks, .inl (zI Z, 256, .inl (q3_ranks o0))), (a0_sets, .inl (zI Z, 256, .inl (q3_sets o0)))] rfl (by decide) (Nat.le_of_ble_eq_true rfl) (by rw [hR]; exact Nat.le_of_ble_eq_true rfl) (by rw [hR]; exact Nat.le_of_ble_eq_true rfl) ⟨by rw [hR]; exact Nat.le_of_ble_eq_true rfl, by rw [hR]; exact Nat.le_of_ble_eq_true rfl⟩ rfl dX3_cubicBelow_25 ?_
    refine g_iconst C 1 dX3_cubicBelow_28 (by decide) ?_
    refine g_aload_n C dX3_cubicBelow_29 rfl 0 rfl ?_
    refine g_get C 3 15 gin3 0 rfl rfl 1 (by decide) mw_1_110 rfl rfl dX3_cubicBelow_30 ?_
    refine g_aload_n C dX3_cubicBelow_33 rfl 0 rfl ?_
    refine g_get C 3 21 gin3 0 rfl rfl 3 (by decide) mw_1_114 rfl rfl dX3_cubicBelow_34 ?_
    refine g_iload_n C dX3_cubicBelow_37 rfl 1 rfl ?_
    obtain ⟨hi7, h⟩ := ck_of h
    refine g_iald C 3 rfl hi7 dX3_cubicBelow_38 ?_
    obtain ⟨hi8, h⟩ := ck_of h
    refine g_iald C 2 rfl hi8 dX3_cubicBelow_39 ?_
    refine g_ishl C dX3_cubicBelow_40 ?_
    refine g_icmp_eq C 46 dX3_cubicBelow_41 (by decide) (fun c9 => ?_) (fun c9 => ?_)
    · replace h := it_t c9 h
      refine g_iinc C (v1 + 1) dX3_cubicBelow_46 1 rfl rfl (by decide) [(1, .int (v1 + 1)), (0, .ref a0)] rfl ?_
      refine g_goto C 2 dX3_cubicBelow_49 (by decide) ?_
      refine g_lv [1, 0] [(0, .ref a0), (1, .int (v1 + 1))] rfl ?_
      exact hk1 (v1 + 1) (Option.some.inj h).symm
    · replace h := it_f c9 h
      obtain ⟨r10, h, hy⟩ := ex_of h
      rw [hx1 r10 hy] at h
      refine g_iconst C 0 dX3_cubicBelow_44 (by decide) ?_
      obtain rfl := Option.some.inj h
      subst hQ
      exact g_zret C rfl (Or.inl rfl) hr hlk dX3_cubicBelow_45 [0, 1, 2, 3] rfl (by decide)
def fX3_cubicAbove_L2 (o0 : OX3) (v1 : Int32) : Option ((Int32) ⊕ (Int32)) :=
  if (q3_size o0) ≤ v1 then (ex (some 1))
  else (ck (okI v1 256) ((fX3_countBetween o0 ((q3_sets o0) (ix v1)) (q3_all o0)).bind fun r5 =>
  ((fX3_top o0).bind fun r7 =>
  (ck (okI v1 256) (ck (okI ((q3_sets o0) (ix v1)) 256) (if r5 = (jshl 1 (r7 - ((q3_ranks o0) (ix ((q3_sets o0) (ix v1)))))) then (some (.inl (v1 + 1)))
  else (ex (some 0))))))))
def fX3_cubicAbove (o0 : OX3) : Option (Int32) :=
  lp (fX3_cubicAbove_L2 o0) lpN 1
theorem myX3_cubicAbove : MYv yX3_cubicAbove cX3_cubicAbove 2 (some .boolean) 0 := ⟨mw_3_4, mw_3_5, mw_3_6, mw_1_5, ⟨by decide +kernel, by decide +kernel⟩, by decide +kernel⟩
set_option maxRecDepth 100000 in
set_option maxHeartbeats 4000000 in
theorem kX3_cubicAbove (l : Launch) (Z : GZ) (a0 a0_closed a0_ranks a0_numbers a0_sets a0_rankSizes a0_tally : Nat) (o0 : OX3) (res : Int32) (h : fX3_cubicAbove o0 = some res) : MI l Z yX3_cubicAbove cX3_cubicAbove 2 .boolean 3 67 [.ref a0] [(a0, .inr (3, [.ref a0_closed, .ref a0_ranks, .ref a0_numbers, .ref a0_sets, .ref a0_rankSizes, .int (q3_size o0), .ref a0_tally, .int (q3_points o0), .int (q3_all o0)])), (a0_closed, .inl (zI Z, 256, .inl (q3_closed o0))), (a0_ranks, .inl (zI Z, 256, .inl (q3_ranks o0))), (a0_sets, .inl (zI Z, 256, .inl (q3_sets o0)))] res [(a0, .inr (3, [.ref a0_closed, .ref a0_ranks, .ref a0_numbers, .ref a0_sets, .ref a0_rankSizes, .int (q3_size o0), .ref a0_tally, .int (q3_points o0), .int (q3_all o0)])), (a0_closed, .inl (zI Z, 256, .inl (q3_closed o0))), (a0_ranks, .inl (zI Z, 256, .inl (q3_ranks o0))), (a0_sets, .inl (zI Z, 256, .inl (q3_sets o0)))] := by
  refine MI_of (by decide +kernel) (Nat.le_of_ble_eq_true rfl) (fun {p e s m args below meth c} A R hR Q hQ C hr hlk => ?_)
  unfold fX3_cubicAbove at h
  refine g_lv [0] [(0, .ref a0)] rfl ?_
  refine g_iconst C 1 dX3_cubicAbove_0 (by decide) ?_
  refine g_istore_n C dX3_cubicAbove_1 rfl (by decide) [(1, .int 1), (0, .ref a0)] rfl ?_
  refine g_lv [1, 0] [(0, .ref a0), (1, .int 1)] rfl ?_
  refine g_loop (lvf := fun v1 => [(0, .ref a0), (1, .int v1)]) (wsf := fun v1 => [(a0, .inr (3, [.ref a0_closed, .ref a0_ranks, .ref a0_numbers, .ref a0_sets, .ref a0_rankSizes, .int (q3_size o0), .ref a0_tally, .int (q3_points o0), .int (q3_all o0)])), (a0_closed, .inl (zI Z, 256, .inl (q3_closed o0))), (a0_ranks, .inl (zI Z, 256, .inl (q3_ranks o0))), (a0_sets, .inl (zI Z, 256, .inl (q3_sets o0)))]) h (fun v1 y1 h hk1 hx1 => ?_)
  refine g_eq (lv1 := [(0, .ref a0), (1, .int v1)]) (st1 := []) (ws1 := [(a0, .inr (3, [.ref a0_closed, .ref a0_ranks, .ref a0_numbers, .ref a0_sets, .ref a0_rankSizes, .int (q3_size o0), .ref a0_tally, .int (q3_points o0), .int (q3_all o0)])), (a0_closed, .inl (zI Z, 256, .inl (q3_closed o0))), (a0_ranks, .inl (zI Z, 256, .inl (q3_ranks o0))), (a0_sets, .inl (zI Z, 256, .inl (q3_sets o0)))]) rfl rfl rfl rfl ?_
  unfold fX3_cubicAbove_L2 at h
  refine g_iload_n C dX3_cubicAbove_2 rfl 1 rfl ?_
  refine g_aload_n C dX3_cubicAbove_3 rfl 0 rfl ?_
  refine g_get C 3 27 gin3 0 rfl rfl 5 (by decide) mw_1_118 rfl rfl dX3_cubicAbove_4 ?_
  refine g_icmp_ge C 53 dX3_cubicAbove_7 (by decide) (fun c2 => ?_) (fun c2 => ?_)
  · replace h := it_t c2 h
    obtain ⟨r3, h, hy⟩ := ex_of h
    rw [hx1 r3 hy] at h
    refine g_iconst C 1 dX3_cubicAbove_53 (by decide) ?_
    obtain rfl := Option.some.inj h
    subst hQ
    exact g_zret C rfl (Or.inr rfl) hr hlk dX3_cubicAbove_54 [0, 1, 2, 3] rfl (by decide)
  · replace h := it_f c2 h
    refine g_aload_n C dX3_cubicAbove_10 rfl 0 rfl ?_
    refine g_aload_n C dX3_cubicAbove_11 rfl 0 rfl ?_
    refine g_get C 3 21 gin3 0 rfl rfl 3 (by decide) mw_1_114 rfl rfl dX3_cubicAbove_12 ?_
    refine g_iload_n C dX3_cubicAbove_15 rfl 1 rfl ?_
    obtain ⟨hi4, h⟩ := ck_of h
    refine g_iald C 3 rfl hi4 dX3_cubicAbove_16 ?_
    refine g_aload_n C dX3_cubicAbove_17 rfl 0 rfl ?_
    refine g_get C 3 37 gin3 0 rfl rfl 8 (by decide) mw_1_122 rfl rfl dX3_cubicAbove_18 ?_
    obtain ⟨r5, hr6, h⟩ := bd_of h
    refine g_callVi C (kX3_countBetween l Z a0 a0_closed a0_ranks a0_numbers a0_sets a0_rankSizes a0_tally o0 ((q3_sets o0) (ix v1)) (q3_all o0) r5 hr6) 0 rfl (ci := 3) rfl rfl myX3_countBetween 105 mw_2_235 rfl [0, 1] [2, 3] [2, 3, 0, 1] (wr := [(a0_ranks, .inl (zI Z, 256, .inl (q3_ranks o0))), (a0_sets, .inl (zI Z, 256, .inl (q3_sets o0)))]) rfl rfl (by decide) (by decide) (by decide) [(a0, .inr (3, [.ref a0_closed, .ref a0_ranks, .ref a0_numbers, .ref a0_sets, .ref a0_rankSizes, .int (q3_size o0), .ref a0_tally, .int (q3_points o0), .int (q3_all o0)])), (a0_closed, .inl (zI Z, 256, .inl (q3_closed o0))), (a0_ranks, .inl (zI Z, 256, .inl (q3_ranks o0))), (a0_sets, .inl (zI Z, 256, .inl (q3_sets o0)))] rfl (by decide) (Nat.le_of_ble_eq_true rfl) (by rw [hR]; exact Nat.le_of_ble_eq_true rfl) (by rw [hR]; exact Nat.le_of_ble_eq_true rfl) ⟨by rw [hR]; exact Nat.le_of_ble_eq_true rfl, by rw [hR]; exact Nat.le_of_ble_eq_true rfl⟩ rfl dX3_cubicAbove_21 ?_
    refine g_iconst C 1 dX3_cubicAbove_24 (by decide) ?_
    refine g_aload_n C dX3_cubicAbove_25 rfl 0 rfl ?_
    obtain ⟨r7, hr8, h⟩ := bd_of h
    refine g_callVi C (kX3_top l Z a0 a0_closed a0_ranks a0_numbers a0_sets a0_rankSizes a0_tally o0 r7 hr8) 0 rfl (ci := 3) rfl rfl myX3_top 108 mw_3_7 rfl [0, 2] [1, 3] [2, 0, 3, 1] (wr := [(a0_closed, .inl (zI Z, 256, .inl (q3_closed o0))), (a0_sets, .inl (zI Z, 256, .inl (q3_sets o0)))]) rfl rfl (by decide) (by decide) (by decide) [(a0, .inr (3, [.ref a0_closed, .ref a0_ranks, .ref a0_numbers, .ref a0_sets, .ref a0_rankSizes, .int (q3_size o0), .ref a0_tally, .int (q3_points o0), .int (q3_all o0)])), (a0_closed, .inl (zI Z, 256, .inl (q3_closed o0))), (a0_ranks, .inl (zI Z, 256, .inl (q3_ranks o0))), (a0_sets, .inl (zI Z, 256, .inl (q3_sets o0)))] rfl (by decide) (Nat.le_of_ble_eq_true rfl) (by rw [hR]; exact Nat.le_of_ble_eq_true rfl) (by rw [hR]; exact Nat.le_of_ble_eq_true rfl) ⟨by rw [hR]; exact Nat.le_of_ble_eq_true rfl, by rw [hR]; exact Nat.le_of_ble_eq_true rfl⟩ rfl dX3_cubicAbove_26 ?_
    refine g_aload_n C dX3_cubicAbove_29 rfl 0 rfl ?_
    refine g_get C 3 15 gin3 0 rfl rfl 1 (by decide) mw_1_110 rfl rfl dX3_cubicAbove_30 ?_
    refine g_aload_n C dX3_cubicAbove_33 rfl 0 rfl ?_
    refine g_get C 3 21 gin3 0 rfl rfl 3 (by decide) mw_1_114 rfl rfl dX3_cubicAbove_34 ?_
    refine g_iload_n C dX3_cubicAbove_37 rfl 1 rfl ?_
    obtain ⟨hi9, h⟩ := ck_of h
    refine g_iald C 3 rfl hi9 dX3_cubicAbove_38 ?_
    obtain ⟨hi10, h⟩ := ck_of h
    refine g_iald C 2 rfl hi10 dX3_cubicAbove_39 ?_
    refine g_isub C dX3_cubicAbove_40 ?_
    refine g_ishl C dX3_cubicAbove_41 ?_
    refine g_icmp_eq C 47 dX3_cubicAbove_42 (by decide) (fun c11 => ?_) (fun c11 => ?_)
    · replace h := it_t c11 h
      refine g_iinc C (v1 + 1) dX3_cubicAbove_47 1 rfl rfl (by decide) [(1, .int (v1 + 1)), (0, .ref a0)] rfl ?_
      refine g_goto C 2 dX3_cubicAbove_50 (by decide) ?_
      refine g_lv [1, 0] [(0, .ref a0), (1, .int (v1 + 1))] rfl ?_
      exact hk1 (v1 + 1) (Option.some.inj h).symm
    · replace h := it_f c11 h
      obtain ⟨r12, h, hy⟩ := ex_of h
      rw [hx1 r12 hy] at h
      refine g_iconst C 0 dX3_cubicAbove_45 (by decide) ?_
      obtain rfl := Option.some.inj h
      subst hQ
      exact g_zret C rfl (Or.inl rfl) hr hlk dX3_cubicAbove_46 [0, 1, 2, 3] rfl (by decide)

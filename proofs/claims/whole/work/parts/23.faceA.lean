def fX6_replaceNow (o0 : OX6) (o1 : OX2) : Option (OX6) :=
  (fX2_copyFrom (q6_now o0) o1).bind fun r1 =>
  ((fX3_build (q6_lattice o0) r1).bind fun r3 =>
  (some (s6_now (s6_lattice o0 (s3_all (s3_points (s3_size (s3_rankSizes (s3_sets (s3_numbers (s3_ranks (s3_closed (q6_lattice o0) (q3_closed r3)) (q3_ranks r3)) (q3_numbers r3)) (q3_sets r3)) (q3_rankSizes r3)) (q3_size r3)) (q3_points r3)) (q3_all r3))) r1)))
theorem myX6_replaceNow : MYv yX6_replaceNow cX6_replaceNow 2 none 1 := ⟨mw_3_174, ms_19, mw_3_175, mw_1_1, ⟨by decide +kernel, by decide +kernel⟩, by decide +kernel⟩
set_option maxRecDepth 100000 in
set_option maxHeartbeats 4000000 in
theorem kX6_replaceNow (l : Launch) (Z : GZ) (a0 a0_text a0_history a0_lattice a0_lattice_closed a0_lattice_ranks a0_lattice_numbers a0_lattice_sets a0_lattice_rankSizes a0_lattice_tally a0_graph a0_matching a0_now a0_now_sets a0_saved a0_next a1 a1_sets : Nat) (o0 : OX6) (o1 : OX2) (res : OX6) (h : fX6_replaceNow o0 o1 = some res) : MV l Z yX6_replaceNow cX6_replaceNow 2 3 66 [.ref a0, .ref a1] [(a0, .inr (6, [.ref a0_text, .ref a0_history, .ref a0_lattice, .ref a0_graph, .ref a0_matching, .ref a0_now, .ref a0_saved, .ref a0_next, .int (q6_hasSaved o0)])), (a0_lattice, .inr (3, [.ref a0_lattice_closed, .ref a0_lattice_ranks, .ref a0_lattice_numbers, .ref a0_lattice_sets, .ref a0_lattice_rankSizes, .int (q3_size (q6_lattice o0)), .ref a0_lattice_tally, .int (q3_points (q6_lattice o0)), .int (q3_all (q6_lattice o0))])), (a0_lattice_closed, .inl (zI Z, 256, .inl (q3_closed (q6_lattice o0)))), (a0_lattice_ranks, .inl (zI Z, 256, .inl (q3_ranks (q6_lattice o0)))), (a0_lattice_numbers, .inl (zI Z, 256, .inl (q3_numbers (q6_lattice o0)))), (a0_lattice_sets, .inl (zI Z, 256, .inl (q3_sets (q6_lattice o0)))), (a0_lattice_rankSizes, .inl (zI Z, 9, .inl (q3_rankSizes (q6_lattice o0)))), (a0_now, .inr (2, [.ref a0_now_sets, .int (q2_points (q6_now o0)), .int (q2_facets (q6_now o0))])), (a0_now_sets, .inl (zI Z, 10, .inl (q2_sets (q6_now o0)))), (a1, .inr (2, [.ref a1_sets, .int (q2_points o1), .int (q2_facets o1)])), (a1_sets, .inl (zI Z, 10, .inl (q2_sets o1)))] [(a0, .inr (6, [.ref a0_text, .ref a0_history, .ref a0_lattice, .ref a0_graph, .ref a0_matching, .ref a0_now, .ref a0_saved, .ref a0_next, .int (q6_hasSaved o0)])), (a0_lattice, .inr (3, [.ref a0_lattice_closed, .ref a0_lattice_ranks, .ref a0_lattice_numbers, .ref a0_lattice_sets, .ref a0_lattice_rankSizes, .int (q3_size (q6_lattice res)), .ref a0_lattice_tally, .int (q3_points (q6_lattice res)), .int (q3_all (q6_lattice res))])), (a0_lattice_closed, .inl (zI Z, 256, .inl (q3_closed (q6_lattice res)))), (a0_lattice_ranks, .inl (zI Z, 256, .inl (q3_ranks (q6_lattice res)))), (a0_lattice_numbers, .inl (zI Z, 256, .inl (q3_numbers (q6_lattice res)))), (a0_lattice_sets, .inl (zI Z, 256, .inl (q3_sets (q6_lattice res)))), (a0_lattice_rankSizes, .inl (zI Z, 9, .inl (q3_rankSizes (q6_lattice res)))), (a0_now, .inr (2, [.ref a0_now_sets, .int (q2_points (q6_now res)), .int (q2_facets (q6_now res))])), (a0_now_sets, .inl (zI Z, 10, .inl (q2_sets (q6_now res)))), (a1, .inr (2, [.ref a1_sets, .int (q2_points o1), .int (q2_facets o1)])), (a1_sets, .inl (zI Z, 10, .inl (q2_sets o1)))] := by
  refine MV_of (by decide +kernel) (Nat.le_of_ble_eq_true rfl) (fun {p e s m args below meth c} A R hR Q hQ C hr hlk => ?_)
  unfold fX6_replaceNow at h
  refine g_lv [0, 1] [(0, .ref a0), (1, .ref a1)] rfl ?_
  refine g_aload_n C dX6_replaceNow_0 rfl 0 rfl ?_
  refine g_get C 6 47 gin6 0 rfl rfl 5 (by decide) mw_1_224 rfl rfl dX6_replaceNow_1 ?_
  refine g_aload_n C dX6_replaceNow_4 rfl 1 rfl ?_
  obtain ⟨r1, hr2, h⟩ := bd_of h
  refine g_callVv C (kX2_copyFrom l Z a0_now a0_now_sets a1 a1_sets (q6_now o0) o1 r1 hr2) 0 rfl (ci := 2) rfl rfl myX2_copyFrom 106 mw_2_133 rfl [7, 8, 9, 10] [0, 1, 2, 3, 4, 5, 6] [0, 1, 2, 3, 4, 5, 6, 7, 8, 9, 10] (wr := [(a0, .inr (6, [.ref a0_text, .ref a0_history, .ref a0_lattice, .ref a0_graph, .ref a0_matching, .ref a0_now, .ref a0_saved, .ref a0_next, .int (q6_hasSaved o0)])), (a0_lattice, .inr (3, [.ref a0_lattice_closed, .ref a0_lattice_ranks, .ref a0_lattice_numbers, .ref a0_lattice_sets, .ref a0_lattice_rankSizes, .int (q3_size (q6_lattice o0)), .ref a0_lattice_tally, .int (q3_points (q6_lattice o0)), .int (q3_all (q6_lattice o0))])), (a0_lattice_closed, .inl (zI Z, 256, .inl (q3_closed (q6_lattice o0)))), (a0_lattice_ranks, .inl (zI Z, 256, .inl (q3_ranks (q6_lattice o0)))), (a0_lattice_numbers, .inl (zI Z, 256, .inl (q3_numbers (q6_lattice o0)))), (a0_lattice_sets, .inl (zI Z, 256, .inl (q3_sets (q6_lattice o0)))), (a0_lattice_rankSizes, .inl (zI Z, 9, .inl (q3_rankSizes (q6_lattice o0))))]) rfl rfl (by decide) (by decide) (by decide) [(a0, .inr (6, [.ref a0_text, .ref a0_history, .ref a0_lattice, .ref a0_graph, .ref a0_matching, .ref a0_now, .ref a0_saved, .ref a0_next, .int (q6_hasSaved o0)])), (a0_lattice, .inr (3, [.ref a0_lattice_closed, .ref a0_lattice_ranks, .ref a0_lattice_numbers, .ref a0_lattice_sets, .ref a0_lattice_rankSizes, .int (q3_size (q6_lattice o0)), .ref a0_lattice_tally, .int (q3_points (q6_lattice o0)), .int (q3_all (q6_lattice o0))])), (a0_lattice_closed, .inl (zI Z, 256, .inl (q3_closed (q6_lattice o0)))), (a0_lattice_ranks, .inl (zI Z, 256, .inl (q3_ranks (q6_lattice o0)))), (a0_lattice_numbers, .inl (zI Z, 256, .inl (q3_numbers (q6_lattice o0)))), (a0_lattice_sets, .inl (zI Z, 256, .inl (q3_sets (q6_lattice o0)))), (a0_lattice_rankSizes, .inl (zI Z, 9, .inl (q3_rankSizes (q6_lattice o0)))), (a0_now, .inr (2, [.ref a0_now_sets, .int (q2_points r1), .int (q2_facets r1)])), (a0_now_sets, .inl (zI Z, 10, .inl (q2_sets r1))), (a1, .inr (2, [.ref a1_sets, .int (q2_points o1), .int (q2_facets o1)])), (a1_sets, .inl (zI Z, 10, .inl (q2_sets o1)))] rfl (by decide) (Nat.le_of_ble_eq_true rfl) (by rw [hR]; exact Nat.le_of_ble_eq_true rfl) (by rw [hR]; exact Nat.le_of_ble_eq_true rfl) ⟨by rw [hR]; exact Nat.le_of_ble_eq_true rfl, by rw [hR]; exact Nat.le_of_ble_eq_true rfl⟩ rfl dX6_replaceNow_5 ?_
  refine g_aload_n C dX6_replaceNow_8 rfl 0 rfl ?_
  refine g_get C 6 26 gin6 0 rfl rfl 2 (by decide) mw_1_221 rfl rfl dX6_replaceNow_9 ?_
  refine g_aload_n C dX6_replaceNow_12 rfl 0 rfl ?_
  refine g_get C 6 47 gin6 0 rfl rfl 5 (by decide) mw_1_224 rfl rfl dX6_replaceNow_13 ?_
  obtain ⟨r3, hr4, h⟩ := bd_of h
  refine g_callVv C (kX3_build l Z a0_lattice a0_lattice_closed a0_lattice_ranks a0_lattice_numbers a0_lattice_sets a0_lattice_rankSizes a0_lattice_tally a0_now a0_now_sets (q6_lattice o0) r1 r3 hr4) 0 rfl (ci := 3) rfl rfl myX3_build 61 mw_1_191 rfl [1, 2, 3, 4, 5, 6, 7, 8] [0, 9, 10] [0, 3, 4, 5, 6, 7, 8, 9, 10, 1, 2] (wr := [(a0, .inr (6, [.ref a0_text, .ref a0_history, .ref a0_lattice, .ref a0_graph, .ref a0_matching, .ref a0_now, .ref a0_saved, .ref a0_next, .int (q6_hasSaved o0)])), (a1, .inr (2, [.ref a1_sets, .int (q2_points o1), .int (q2_facets o1)])), (a1_sets, .inl (zI Z, 10, .inl (q2_sets o1)))]) rfl rfl (by decide) (by decide) (by decide) [(a0, .inr (6, [.ref a0_text, .ref a0_history, .ref a0_lattice, .ref a0_graph, .ref a0_matching, .ref a0_now, .ref a0_saved, .ref a0_next, .int (q6_hasSaved o0)])), (a0_lattice, .inr (3, [.ref a0_lattice_closed, .ref a0_lattice_ranks, .ref a0_lattice_numbers, .ref a0_lattice_sets, .ref a0_lattice_rankSizes, .int (q3_size r3), .ref a0_lattice_tally, .int (q3_points r3), .int (q3_all r3)])), (a0_lattice_closed, .inl (zI Z, 256, .inl (q3_closed r3))), (a0_lattice_ranks, .inl (zI Z, 256, .inl (q3_ranks r3))), (a0_lattice_numbers, .inl (zI Z, 256, .inl (q3_numbers r3))), (a0_lattice_sets, .inl (zI Z, 256, .inl (q3_sets r3))), (a0_lattice_rankSizes, .inl (zI Z, 9, .inl (q3_rankSizes r3))), (a0_now, .inr (2, [.ref a0_now_sets, .int (q2_points r1), .int (q2_facets r1)])), (a0_now_sets, .inl (zI Z, 10, .inl (q2_sets r1))), (a1, .inr (2, [.ref a1_sets, .int (q2_points o1), .int (q2_facets o1)])), (a1_sets, .inl (zI Z, 10, .inl (q2_sets o1)))] rfl (by decide) (Nat.le_of_ble_eq_true rfl) (by rw [hR]; exact Nat.le_of_ble_eq_true rfl) (by rw [hR]; exact Nat.le_of_ble_eq_true rfl) ⟨by rw [hR]; exact Nat.le_of_ble_eq_true rfl, by rw [hR]; exact Nat.le_of_ble_eq_true rfl⟩ rfl dX6_replaceNow_16 ?_
  obtain rfl := Option.some.inj h
  subst hQ
  exact g_vret C hr hlk dX6_replaceNow_19 [0, 1, 2, 3, 4, 5, 6, 7, 8, 9, 10] rfl (by decide)
def fX6_linkGraph (o0 : OX6) (p1 : Int32) : Option (OX6) :=
  if p1 = 0 then ((fX0_linkPoints (q6_graph o0) (q6_now o0) (q6_lattice o0)).bind fun r2 =>
  (some (s6_graph o0 r2)))
  else ((fX0_linkFacets (q6_graph o0) (q6_now o0) (q6_lattice o0)).bind fun r4 =>
  (some (s6_graph o0 r4)))
theorem myX6_linkGraph : MYv yX6_linkGraph cX6_linkGraph 2 none 1 := ⟨mw_4_220, ms_29, mw_4_221, mw_1_1, ⟨by decide +kernel, by decide +kernel⟩, by decide +kernel⟩
set_option maxRecDepth 100000 in
set_option maxHeartbeats 4000000 in
theorem kX6_linkGraph (l : Launch) (Z : GZ) (a0 a0_text a0_history a0_lattice a0_lattice_closed a0_lattice_ranks a0_lattice_numbers a0_lattice_sets a0_lattice_rankSizes a0_lattice_tally a0_graph a0_graph_nextTo a0_matching a0_now a0_now_sets a0_saved a0_next : Nat) (o0 : OX6) (p1 : Int32) (res : OX6) (h : fX6_linkGraph o0 p1 = some res) : MV l Z yX6_linkGraph cX6_linkGraph 2 3 69 [.ref a0, .int p1] [(a0, .inr (6, [.ref a0_text, .ref a0_history, .ref a0_lattice, .ref a0_graph, .ref a0_matching, .ref a0_now, .ref a0_saved, .ref a0_next, .int (q6_hasSaved o0)])), (a0_lattice, .inr (3, [.ref a0_lattice_closed, .ref a0_lattice_ranks, .ref a0_lattice_numbers, .ref a0_lattice_sets, .ref a0_lattice_rankSizes, .int (q3_size (q6_lattice o0)), .ref a0_lattice_tally, .int (q3_points (q6_lattice o0)), .int (q3_all (q6_lattice o0))])), (a0_lattice_closed, .inl (zI Z, 256, .inl (q3_closed (q6_lattice o0)))), (a0_graph, .inr (0, [.ref a0_graph_nextTo, .int (q0_size (q6_graph o0))])), (a0_graph_nextTo, .inl (zI Z, 10, .inl (q0_nextTo (q6_graph o0)))), (a0_now, .inr (2, [.ref a0_now_sets, .int (q2_points (q6_now o0)), .int (q2_facets (q6_now o0))])), (a0_now_sets, .inl (zI Z, 10, .inl (q2_sets (q6_now o0))))] [(a0, .inr (6, [.ref a0_text, .ref a0_history, .ref a0_lattice, .ref a0_graph, .ref a0_matching, .ref a0_now, .ref a0_saved, .ref a0_next, .int (q6_hasSaved o0)])), (a0_lattice, .inr (3, [.ref a0_lattice_closed, .ref a0_lattice_ranks, .ref a0_lattice_numbers, .ref a0_lattice_sets, .ref a0_lattice_rankSizes, .int (q3_size (q6_lattice o0)), .ref a0_lattice_tally, .int (q3_points (q6_lattice o0)), .int (q3_all (q6_lattice o0))])), (a0_lattice_closed, .inl (zI Z, 256, .inl (q3_closed (q6_lattice o0)))), (a0_graph, .inr (0, [.ref a0_graph_nextTo, .int (q0_size (q6_graph res))])), (a0_graph_nextTo, .inl (zI Z, 10, .inl (q0_nextTo (q6_graph res)))), (a0_now, .inr (2, [.ref a0_now_sets, .int (q2_points (q6_now o0)), .int (q2_facets (q6_now o0))])), (a0_now_sets, .inl (zI Z, 10, .inl (q2_sets (q6_now o0))))] := by
  refine MV_of (by decide +kernel) (Nat.le_of_ble_eq_true rfl) (fun {p e s m args below meth c} A R hR Q hQ C hr hlk => ?_)
  unfold fX6_linkGraph at h
  refine g_lv [0, 1] [(0, .ref a0), (1, .int p1)] rfl ?_
  refine g_iload_n C dX6_linkGraph_0 rfl 1 rfl ?_
  refine g_if_eq C 22 dX6_linkGraph_1 (by decide) (fun c1 => ?_) (fun c1 => ?_)
  · replace h := it_t c1 h
    refine g_aload_n C dX6_linkGraph_22 rfl 0 rfl ?_
    refine g_get C 6 33 gin6 0 rfl rfl 3 (by decide) mw_1_222 rfl rfl dX6_linkGraph_23 ?_
    refine g_aload_n C dX6_linkGraph_26 rfl 0 rfl ?_
    refine g_get C 6 47 gin6 0 rfl rfl 5 (by decide) mw_1_224 rfl rfl dX6_linkGraph_27 ?_
    refine g_aload_n C dX6_linkGraph_30 rfl 0 rfl ?_
    refine g_get C 6 26 gin6 0 rfl rfl 2 (by decide) mw_1_221 rfl rfl dX6_linkGraph_31 ?_
    obtain ⟨r2, hr3, h⟩ := bd_of h
    refine g_callVv C (kX0_linkPoints l Z a0_graph a0_graph_nextTo a0_now a0_now_sets a0_lattice a0_lattice_closed a0_lattice_ranks a0_lattice_numbers a0_lattice_sets a0_lattice_rankSizes a0_lattice_tally (q6_graph o0) (q6_now o0) (q6_lattice o0) r2 hr3) 0 rfl (ci := 0) rfl rfl myX0_linkPoints 152 mw_4_47 rfl [3, 4, 5, 1, 2] [0, 6] [0, 5, 6, 2, 3, 4, 1] (wr := [(a0, .inr (6, [.ref a0_text, .ref a0_history, .ref a0_lattice, .ref a0_graph, .ref a0_matching, .ref a0_now, .ref a0_saved, .ref a0_next, .int (q6_hasSaved o0)])), (a0_now_sets, .inl (zI Z, 10, .inl (q2_sets (q6_now o0))))]) rfl rfl (by decide) (by decide) (by decide) [(a0, .inr (6, [.ref a0_text, .ref a0_history, .ref a0_lattice, .ref a0_graph, .ref a0_matching, .ref a0_now, .ref a0_saved, .ref a0_next, .int (q6_hasSaved o0)])), (a0_lattice, .inr (3, [.ref a0_lattice_closed, .ref a0_lattice_ranks, .ref a0_lattice_numbers, .ref a0_lattice_sets, .ref a0_lattice_rankSizes, .int (q3_size (q6_lattice o0)), .ref a0_lattice_tally, .int (q3_points (q6_lattice o0)), .int (q3_all (q6_lattice o0))])), (a0_lattice_closed, .inl (zI Z, 256, .inl (q3_closed (q6_lattice o0)))), (a0_graph, .inr (0, [.ref a0_graph_nextTo, .int (q0_size r2)])), (a0_graph_nextTo, .inl (zI Z, 10, .inl (q0_nextTo r2))), (a0_now, .inr (2, [.ref a0_now_sets, .int (q2_points (q6_now o0)), .int (q2_facets (q6_now o0))])), (a0_now_sets, .inl (zI Z, 10, .inl (q2_sets (q6_now o0))))] rfl (by decide) (Nat.le_of_ble_eq_true rfl) (by rw [hR]; exact Nat.le_of_ble_eq_true rfl) (by rw [hR]; exact Nat.le_of_ble_eq_true rfl) ⟨by rw [hR]; exact Nat.le_of_ble_eq_true rfl, by rw [hR]; exact Nat.le_of_ble_eq_true rfl⟩ rfl dX6_linkGraph_34 ?_
    obtain rfl := Option.some.inj h
    subst hQ
    exact g_vret C hr hlk dX6_linkGraph_37 [0, 1, 2, 3, 4, 5, 6] rfl (by decide)
  · replace h := it_f c1 h
    refine g_aload_n C dX6_linkGraph_4 rfl 0 rfl ?_
    refine g_get C 6 33 gin6 0 rfl rfl 3 (by decide) mw_1_222 rfl rfl dX6_linkGraph_5 ?_
    refine g_aload_n C dX6_linkGraph_8 rfl 0 rfl ?_
    refine g_get C 6 47 gin6 0 rfl rfl 5 (by decide) mw_1_224 rfl rfl dX6_linkGraph_9 ?_
    refine g_aload_n C dX6_linkGraph_12 rfl 0 rfl ?_
    refine g_get C 6 26 gin6 0 rfl rfl 2 (by decide) mw_1_221 rfl rfl dX6_linkGraph_13 ?_
    obtain ⟨r4, hr5, h⟩ := bd_of h
    refine g_callVv C (kX0_linkFacets l Z a0_graph a0_graph_nextTo a0_now a0_now_sets a0_lattice a0_lattice_closed a0_lattice_ranks a0_lattice_numbers a0_lattice_sets a0_lattice_rankSizes a0_lattice_tally (q6_graph o0) (q6_now o0) (q6_lattice o0) r4 hr5) 0 rfl (ci := 0) rfl rfl myX0_linkFacets 264 mw_4_222 rfl [3, 4, 5, 6, 1, 2] [0] [0, 5, 6, 1, 2, 3, 4] (wr := [(a0, .inr (6, [.ref a0_text, .ref a0_history, .ref a0_lattice, .ref a0_graph, .ref a0_matching, .ref a0_now, .ref a0_saved, .ref a0_next, .int (q6_hasSaved o0)]))]) rfl rfl (by decide) (by decide) (by decide) [(a0, .inr (6, [.ref a0_text, .ref a0_history, .ref a0_lattice, .ref a0_graph, .ref a0_matching, .ref a0_now, .ref a0_saved, .ref a0_next, .int (q6_hasSaved o0)])), (a0_lattice, .inr (3, [.ref a0_lattice_closed, .ref a0_lattice_ranks, .ref a0_lattice_numbers, .ref a0_lattice_sets, .ref a0_lattice_rankSizes, .int (q3_size (q6_lattice o0)), .ref a0_lattice_tally, .int (q3_points (q6_lattice o0)), .int (q3_all (q6_lattice o0))])), (a0_lattice_closed, .inl (zI Z, 256, .inl (q3_closed (q6_lattice o0)))), (a0_graph, .inr (0, [.ref a0_graph_nextTo, .int (q0_size r4)])), (a0_graph_nextTo, .inl (zI Z, 10, .inl (q0_nextTo r4))), (a0_now, .inr (2, [.ref a0_now_sets, .int (q2_points (q6_now o0)), .int (q2_facets (q6_now o0))])), (a0_now_sets, .inl (zI Z, 10, .inl (q2_sets (q6_now o0))))] rfl (by decide) (Nat.le_of_ble_eq_true rfl) (by rw [hR]; exact Nat.le_of_ble_eq_true rfl) (by rw [hR]; exact Nat.le_of_ble_eq_true rfl) ⟨by rw [hR]; exact Nat.le_of_ble_eq_true rfl, by rw [hR]; exact Nat.le_of_ble_eq_true rfl⟩ rfl dX6_linkGraph_16 ?_
    refine g_goto C 37 dX6_linkGraph_19 (by decide) ?_
    obtain rfl := Option.some.inj h
    subst hQ
    exact g_vret C hr hlk dX6_linkGraph_37 [0, 1, 2, 3, 4, 5, 6] rfl (by decide)
def fX6_checkPoint (o0 : OX6) (p1 : Int32) : Option ((Nat ⊕ Int32)) :=
  if p1 < 0 then (some (.inl 2))
  else (if p1 < (q2_points (q6_now o0)) then (some (.inr 0))
  else (some (.inl 2)))
theorem myX6_checkPoint : MYv yX6_checkPoint cX6_checkPoint 2 none 1 := ⟨mw_3_186, ms_20, mw_3_187, mw_1_1, ⟨by decide +kernel, by decide +kernel⟩, by decide +kernel⟩
set_option maxRecDepth 100000 in
set_option maxHeartbeats 4000000 in
theorem kX6_checkPoint (l : Launch) (hst : l.stackTraces = false) (Z : GZ) (Y : YZ) (a0 a0_text a0_history a0_lattice a0_graph a0_matching a0_now a0_now_sets a0_saved a0_next : Nat) (o0 : OX6) (p1 : Int32) (res : (Nat ⊕ Int32)) (h : fX6_checkPoint o0 p1 = some res) : XV l Z Y yX6_checkPoint cX6_checkPoint 2 6 89 1 6 [.ref a0, .int p1] [(a0, .inr (6, [.ref a0_text, .ref a0_history, .ref a0_lattice, .ref a0_graph, .ref a0_matching, .ref a0_now, .ref a0_saved, .ref a0_next, .int (q6_hasSaved o0)])), (a0_now, .inr (2, [.ref a0_now_sets, .int (q2_points (q6_now o0)), .int (q2_facets (q6_now o0))]))] res [(a0, .inr (6, [.ref a0_text, .ref a0_history, .ref a0_lattice, .ref a0_graph, .ref a0_matching, .ref a0_now, .ref a0_saved, .ref a0_next, .int (q6_hasSaved o0)])), (a0_now, .inr (2, [.ref a0_now_sets, .int (q2_points (q6_now o0)), .int (q2_facets (q6_now o0))]))] := by
  refine XV_of hst (by decide +kernel) (Nat.le_of_ble_eq_true rfl) (fun {p e s m args below meth c} A R hR Q hQ C D hr => ?_)
  unfold fX6_checkPoint at h
  refine g_lv [0, 1] [(0, .ref a0), (1, .int p1)] rfl ?_
  refine g_iload_n C dX6_checkPoint_0 rfl 1 rfl ?_
  refine g_if_lt C 15 dX6_checkPoint_1 (by decide) (fun c1 => ?_) (fun c1 => ?_)
  · replace h := it_t c1 h
    obtain rfl := Option.some.inj h
    subst hQ
    exact gx_throwV C D rfl rfl (by decide +kernel) mw_3_188 mw_1_20 xat2 xng2 xgd2 dX6_checkPoint_15 dX6_checkPoint_18 dX6_checkPoint_19 dX6_checkPoint_22 (by rw [hR]; exact Nat.le_of_ble_eq_true rfl) (by rw [hR]; exact Nat.le_of_ble_eq_true rfl) (by rw [hR]; exact Nat.le_of_ble_eq_true rfl) (by rw [hR]; exact Nat.le_of_ble_eq_true rfl) (Nat.le_of_ble_eq_true rfl) (Nat.le_of_ble_eq_true rfl) [0, 1] rfl (by decide)
  · replace h := it_f c1 h
    refine g_iload_n C dX6_checkPoint_4 rfl 1 rfl ?_
    refine g_aload_n C dX6_checkPoint_5 rfl 0 rfl ?_
    refine g_get C 6 47 gin6 0 rfl rfl 5 (by decide) mw_1_224 rfl rfl dX6_checkPoint_6 ?_
    refine g_get C 2 131 gin2 1 rfl rfl 1 (by decide) mw_1_78 rfl rfl dX6_checkPoint_9 ?_
    refine g_icmp_lt C 23 dX6_checkPoint_12 (by decide) (fun c2 => ?_) (fun c2 => ?_)
    · replace h := it_t c2 h
      obtain rfl := Option.some.inj h
      subst hQ
      exact gx_vret C D rfl hr (Nat.le_of_ble_eq_true rfl) (Nat.le_of_ble_eq_true rfl) dX6_checkPoint_23 [0, 1] rfl (by decide)
    · replace h := it_f c2 h
      obtain rfl := Option.some.inj h
      subst hQ
      exact gx_throwV C D rfl rfl (by decide +kernel) mw_3_188 mw_1_20 xat2 xng2 xgd2 dX6_checkPoint_15 dX6_checkPoint_18 dX6_checkPoint_19 dX6_checkPoint_22 (by rw [hR]; exact Nat.le_of_ble_eq_true rfl) (by rw [hR]; exact Nat.le_of_ble_eq_true rfl) (by rw [hR]; exact Nat.le_of_ble_eq_true rfl) (by rw [hR]; exact Nat.le_of_ble_eq_true rfl) (Nat.le_of_ble_eq_true rfl) (Nat.le_of_ble_eq_true rfl) [0, 1] rfl (by decide)
theorem fX6_checkPoint_v (o0 : OX6) (p1 : Int32) (v : Int32) (h : fX6_checkPoint o0 p1 = some (.inr v)) : v = 0 := by
  unfold fX6_checkPoint at h
  (repeat' first | (obtain ⟨_, _, h⟩ := bd_of h) | (rcases xb_of h with ⟨_, _, h⟩ | ⟨_, _, h⟩) | split at h) <;> first | (cases h; rfl) | cases h
def fX6_checkFacet (o0 : OX6) (p1 : Int32) : Option ((Nat ⊕ Int32)) :=
  if p1 < 0 then (some (.inl 2))
  else (if p1 < (q2_facets (q6_now o0)) then (some (.inr 0))
  else (some (.inl 2)))
theorem myX6_checkFacet : MYv yX6_checkFacet cX6_checkFacet 2 none 1 := ⟨mw_3_205, ms_21, mw_3_206, mw_1_1, ⟨by decide +kernel, by decide +kernel⟩, by decide +kernel⟩
set_option maxRecDepth 100000 in
set_option maxHeartbeats 4000000 in
theorem kX6_checkFacet (l : Launch) (hst : l.stackTraces = false) (Z : GZ) (Y : YZ) (a0 a0_text a0_history a0_lattice a0_graph a0_matching a0_now a0_now_sets a0_saved a0_next : Nat) (o0 : OX6) (p1 : Int32) (res : (Nat ⊕ Int32)) (h : fX6_checkFacet o0 p1 = some res) : XV l Z Y yX6_checkFacet cX6_checkFacet 2 6 89 1 6 [.ref a0, .int p1] [(a0, .inr (6, [.ref a0_text, .ref a0_history, .ref a0_lattice, .ref a0_graph, .ref a0_matching, .ref a0_now, .ref a0_saved, .ref a0_next, .int (q6_hasSaved o0)])), (a0_now, .inr (2, [.ref a0_now_sets, .int (q2_points (q6_now o0)), .int (q2_facets (q6_now o0))]))] res [(a0, .inr (6, [.ref a0_text, .ref a0_history, .ref a0_lattice, .ref a0_graph, .ref a0_matching, .ref a0_now, .ref a0_saved, .ref a0_next, .int (q6_hasSaved o0)])), (a0_now, .inr (2, [.ref a0_now_sets, .int (q2_points (q6_now o0)), .int (q2_facets (q6_now o0))]))] := by
  refine XV_of hst (by decide +kernel) (Nat.le_of_ble_eq_true rfl) (fun {p e s m args below meth c} A R hR Q hQ C D hr => ?_)
  unfold fX6_checkFacet at h
  refine g_lv [0, 1] [(0, .ref a0), (1, .int p1)] rfl ?_
  refine g_iload_n C dX6_checkFacet_0 rfl 1 rfl ?_
  refine g_if_lt C 15 dX6_checkFacet_1 (by decide) (fun c1 => ?_) (fun c1 => ?_)
  · replace h := it_t c1 h
    obtain rfl := Option.some.inj h
    subst hQ
    exact gx_throwV C D rfl rfl (by decide +kernel) mw_3_188 mw_1_20 xat2 xng2 xgd2 dX6_checkFacet_15 dX6_checkFacet_18 dX6_checkFacet_19 dX6_checkFacet_22 (by rw [hR]; exact Nat.le_of_ble_eq_true rfl) (by rw [hR]; exact Nat.le_of_ble_eq_true rfl) (by rw [hR]; exact Nat.le_of_ble_eq_true rfl) (by rw [hR]; exact Nat.le_of_ble_eq_true rfl) (Nat.le_of_ble_eq_true rfl) (Nat.le_of_ble_eq_true rfl) [0, 1] rfl (by decide)
  · replace h := it_f c1 h
    refine g_iload_n C dX6_checkFacet_4 rfl 1 rfl ?_
    refine g_aload_n C dX6_checkFacet_5 rfl 0 rfl ?_
    refine g_get C 6 47 gin6 0 rfl rfl 5 (by decide) mw_1_224 rfl rfl dX6_checkFacet_6 ?_
    refine g_get C 2 93 gin2 1 rfl rfl 2 (by decide) mw_1_81 rfl rfl dX6_checkFacet_9 ?_
    refine g_icmp_lt C 23 dX6_checkFacet_12 (by decide) (fun c2 => ?_) (fun c2 => ?_)
    · replace h := it_t c2 h
      obtain rfl := Option.some.inj h
      subst hQ
      exact gx_vret C D rfl hr (Nat.le_of_ble_eq_true rfl) (Nat.le_of_ble_eq_true rfl) dX6_checkFacet_23 [0, 1] rfl (by decide)
    · replace h := it_f c2 h
      obtain rfl := Option.some.inj h
      subst hQ
      exact gx_throwV C D rfl rfl (by decide +kernel) mw_3_188 mw_1_20 xat2 xng2 xgd2 dX6_checkFacet_15 dX6_checkFacet_18 dX6_checkFacet_19 dX6_checkFacet_22 (by rw [hR]; exact Nat.le_of_ble_eq_true rfl) (by rw [hR]; exact Nat.le_of_ble_eq_true rfl) (by rw [hR]; exact Nat.le_of_ble_eq_true rfl) (by rw [hR]; exact Nat.le_of_ble_eq_true rfl) (Nat.le_of_ble_eq_true rfl) (Nat.le_of_ble_eq_true rfl) [0, 1] rfl (by decide)
theorem fX6_checkFacet_v (o0 : OX6) (p1 : Int32) (v : Int32) (h : fX6_checkFacet o0 p1 = some (.inr v)) : v = 0 := by
  unfold fX6_checkFacet at h
  (repeat' first | (obtain ⟨_, _, h⟩ := bd_of h) | (rcases xb_of h with ⟨_, _, h⟩ | ⟨_, _, h⟩) | split at h) <;> first | (cases h; rfl) | cases h
def fX6_checkNode (o0 : OX6) (p1 : Int32) (p2 : Int32) : Option ((Nat ⊕ Int32)) :=
  if p2 = 0 then ((fX6_checkPoint o0 p1).bind fun r2 =>
  (xb r2 (fun k4 => some (.inl k4)) (fun z5 =>
  some (.inr 0))))
  else ((fX6_checkFacet o0 p1).bind fun r6 =>
  (xb r6 (fun k8 => some (.inl k8)) (fun z9 =>
  some (.inr 0))))
theorem myX6_checkNode : MYv yX6_checkNode cX6_checkNode 3 none 2 := ⟨mw_4_216, ms_28, mw_4_217, mw_1_1, ⟨by decide +kernel, by decide +kernel⟩, by decide +kernel⟩
set_option maxRecDepth 100000 in
set_option maxHeartbeats 4000000 in
theorem kX6_checkNode (l : Launch) (hst : l.stackTraces = false) (Z : GZ) (Y : YZ) (a0 a0_text a0_history a0_lattice a0_graph a0_matching a0_now a0_now_sets a0_saved a0_next : Nat) (o0 : OX6) (p1 : Int32) (p2 : Int32) (res : (Nat ⊕ Int32)) (h : fX6_checkNode o0 p1 p2 = some res) : XV l Z Y yX6_checkNode cX6_checkNode 3 7 110 1 6 [.ref a0, .int p1, .int p2] [(a0, .inr (6, [.ref a0_text, .ref a0_history, .ref a0_lattice, .ref a0_graph, .ref a0_matching, .ref a0_now, .ref a0_saved, .ref a0_next, .int (q6_hasSaved o0)])), (a0_now, .inr (2, [.ref a0_now_sets, .int (q2_points (q6_now o0)), .int (q2_facets (q6_now o0))]))] res [(a0, .inr (6, [.ref a0_text, .ref a0_history, .ref a0_lattice, .ref a0_graph, .ref a0_matching, .ref a0_now, .ref a0_saved, .ref a0_next, .int (q6_hasSaved o0)])), (a0_now, .inr (2, [.ref a0_now_sets, .int (q2_points (q6_now o0)), .int (q2_facets (q6_now o0))]))] := by
  refine XV_of hst (by decide +kernel) (Nat.le_of_ble_eq_true rfl) (fun {p e s m args below meth c} A R hR Q hQ C D hr => ?_)
  unfold fX6_checkNode at h
  refine g_lv [0, 1, 2] [(0, .ref a0), (1, .int p1), (2, .int p2)] rfl ?_
  refine g_iload_n C dX6_checkNode_0 rfl 2 rfl ?_
  refine g_if_eq C 12 dX6_checkNode_1 (by decide) (fun c1 => ?_) (fun c1 => ?_)
  · replace h := it_t c1 h
    refine g_aload_n C dX6_checkNode_12 rfl 0 rfl ?_
    refine g_iload_n C dX6_checkNode_13 rfl 1 rfl ?_
    obtain ⟨r2, hr3, h⟩ := bd_of h
    rcases xb_of h with ⟨k4, rfl, h⟩ | ⟨z5, rfl, h⟩
    · obtain rfl := Option.some.inj h
      subst hQ
      exact gx_thrV C D rfl (kX6_checkPoint l hst Z Y a0 a0_text a0_history a0_lattice a0_graph a0_matching a0_now a0_now_sets a0_saved a0_next o0 p1 (.inl k4) hr3) (g_recv C 0 rfl (ci := 6) rfl rfl) myX6_checkPoint 96 mw_3_184 rfl [0, 1] [] [0, 1] (wr := []) rfl rfl (by decide) (by decide) (by decide) [(a0, .inr (6, [.ref a0_text, .ref a0_history, .ref a0_lattice, .ref a0_graph, .ref a0_matching, .ref a0_now, .ref a0_saved, .ref a0_next, .int (q6_hasSaved o0)])), (a0_now, .inr (2, [.ref a0_now_sets, .int (q2_points (q6_now o0)), .int (q2_facets (q6_now o0))]))] rfl (by decide) (Nat.le_of_ble_eq_true rfl) (by rw [hR]; exact Nat.le_of_ble_eq_true rfl) (by rw [hR]; exact Nat.le_of_ble_eq_true rfl) ⟨by rw [hR]; exact Nat.le_of_ble_eq_true rfl, by rw [hR]; exact Nat.le_of_ble_eq_true rfl⟩ rfl (Nat.le_of_ble_eq_true rfl) (Nat.le_of_ble_eq_true rfl) dX6_checkNode_14
    · have hz5 : z5 = 0 := fX6_checkPoint_v o0 p1 z5 hr3
      subst hz5
      refine gx_callVv C D (kX6_checkPoint l hst Z Y a0 a0_text a0_history a0_lattice a0_graph a0_matching a0_now a0_now_sets a0_saved a0_next o0 p1 (.inr 0) hr3) (g_recv C 0 rfl (ci := 6) rfl rfl) myX6_checkPoint 96 mw_3_184 rfl [0, 1] [] [0, 1] (wr := []) rfl rfl (by decide) (by decide) (by decide) [(a0, .inr (6, [.ref a0_text, .ref a0_history, .ref a0_lattice, .ref a0_graph, .ref a0_matching, .ref a0_now, .ref a0_saved, .ref a0_next, .int (q6_hasSaved o0)])), (a0_now, .inr (2, [.ref a0_now_sets, .int (q2_points (q6_now o0)), .int (q2_facets (q6_now o0))]))] rfl (by decide) (Nat.le_of_ble_eq_true rfl) (by rw [hR]; exact Nat.le_of_ble_eq_true rfl) (by rw [hR]; exact Nat.le_of_ble_eq_true rfl) ⟨by rw [hR]; exact Nat.le_of_ble_eq_true rfl, by rw [hR]; exact Nat.le_of_ble_eq_true rfl⟩ rfl dX6_checkNode_14 ?_
      obtain rfl := Option.some.inj h
      subst hQ
      exact gx_vret C D rfl hr (Nat.le_of_ble_eq_true rfl) (Nat.le_of_ble_eq_true rfl) dX6_checkNode_17 [0, 1] rfl (by decide)
  · replace h := it_f c1 h
    refine g_aload_n C dX6_checkNode_4 rfl 0 rfl ?_
    refine g_iload_n C dX6_checkNode_5 rfl 1 rfl ?_
    obtain ⟨r6, hr7, h⟩ := bd_of h
    rcases xb_of h with ⟨k8, rfl, h⟩ | ⟨z9, rfl, h⟩
    · obtain rfl := Option.some.inj h
      subst hQ
      exact gx_thrV C D rfl (kX6_checkFacet l hst Z Y a0 a0_text a0_history a0_lattice a0_graph a0_matching a0_now a0_now_sets a0_saved a0_next o0 p1 (.inl k8) hr7) (g_recv C 0 rfl (ci := 6) rfl rfl) myX6_checkFacet 99 mw_3_203 rfl [0, 1] [] [0, 1] (wr := []) rfl rfl (by decide) (by decide) (by decide) [(a0, .inr (6, [.ref a0_text, .ref a0_history, .ref a0_lattice, .ref a0_graph, .ref a0_matching, .ref a0_now, .ref a0_saved, .ref a0_next, .int (q6_hasSaved o0)])), (a0_now, .inr (2, [.ref a0_now_sets, .int (q2_points (q6_now o0)), .int (q2_facets (q6_now o0))]))] rfl (by decide) (Nat.le_of_ble_eq_true rfl) (by rw [hR]; exact Nat.le_of_ble_eq_true rfl) (by rw [hR]; exact Nat.le_of_ble_eq_true rfl) ⟨by rw [hR]; exact Nat.le_of_ble_eq_true rfl, by rw [hR]; exact Nat.le_of_ble_eq_true rfl⟩ rfl (Nat.le_of_ble_eq_true rfl) (Nat.le_of_ble_eq_true rfl) dX6_checkNode_6
    · have hz9 : z9 = 0 := fX6_checkFacet_v o0 p1 z9 hr7
      subst hz9
      refine gx_callVv C D (kX6_checkFacet l hst Z Y a0 a0_text a0_history a0_lattice a0_graph a0_matching a0_now a0_now_sets a0_saved a0_next o0 p1 (.inr 0) hr7) (g_recv C 0 rfl (ci := 6) rfl rfl) myX6_checkFacet 99 mw_3_203 rfl [0, 1] [] [0, 1] (wr := []) rfl rfl (by decide) (by decide) (by decide) [(a0, .inr (6, [.ref a0_text, .ref a0_history, .ref a0_lattice, .ref a0_graph, .ref a0_matching, .ref a0_now, .ref a0_saved, .ref a0_next, .int (q6_hasSaved o0)])), (a0_now, .inr (2, [.ref a0_now_sets, .int (q2_points (q6_now o0)), .int (q2_facets (q6_now o0))]))] rfl (by decide) (Nat.le_of_ble_eq_true rfl) (by rw [hR]; exact Nat.le_of_ble_eq_true rfl) (by rw [hR]; exact Nat.le_of_ble_eq_true rfl) ⟨by rw [hR]; exact Nat.le_of_ble_eq_true rfl, by rw [hR]; exact Nat.le_of_ble_eq_true rfl⟩ rfl dX6_checkNode_6 ?_
      refine g_goto C 17 dX6_checkNode_9 (by decide) ?_
      obtain rfl := Option.some.inj h
      subst hQ
      exact gx_vret C D rfl hr (Nat.le_of_ble_eq_true rfl) (Nat.le_of_ble_eq_true rfl) dX6_checkNode_17 [0, 1] rfl (by decide)
theorem fX6_checkNode_v (o0 : OX6) (p1 : Int32) (p2 : Int32) (v : Int32) (h : fX6_checkNode o0 p1 p2 = some (.inr v)) : v = 0 := by
  unfold fX6_checkNode at h
  (repeat' first | (obtain ⟨_, _, h⟩ := bd_of h) | (rcases xb_of h with ⟨_, _, h⟩ | ⟨_, _, h⟩) | split at h) <;> first | (cases h; rfl) | cases h
def fX6_checkFace (o0 : OX6) (p1 : Int32) : Option ((Nat ⊕ Int32)) :=
  if p1 < 0 then (some (.inl 2))
  else (if p1 < (q3_size (q6_lattice o0)) then (some (.inr 0))
  else (some (.inl 2)))
theorem myX6_checkFace : MYv yX6_checkFace cX6_checkFace 2 none 1 := ⟨mw_4_76, ms_27, mw_4_77, mw_1_1, ⟨by decide +kernel, by decide +kernel⟩, by decide +kernel⟩
set_option maxRecDepth 100000 in
set_option maxHeartbeats 4000000 in
theorem kX6_checkFace (l : Launch) (hst : l.stackTraces = false) (Z : GZ) (Y : YZ) (a0 a0_text a0_history a0_lattice a0_lattice_closed a0_lattice_ranks a0_lattice_numbers a0_lattice_sets a0_lattice_rankSizes a0_lattice_tally a0_graph a0_matching a0_now a0_saved a0_next : Nat) (o0 : OX6) (p1 : Int32) (res : (Nat ⊕ Int32)) (h : fX6_checkFace o0 p1 = some res) : XV l Z Y yX6_checkFace cX6_checkFace 2 6 89 1 6 [.ref a0, .int p1] [(a0, .inr (6, [.ref a0_text, .ref a0_history, .ref a0_lattice, .ref a0_graph, .ref a0_matching, .ref a0_now, .ref a0_saved, .ref a0_next, .int (q6_hasSaved o0)])), (a0_lattice, .inr (3, [.ref a0_lattice_closed, .ref a0_lattice_ranks, .ref a0_lattice_numbers, .ref a0_lattice_sets, .ref a0_lattice_rankSizes, .int (q3_size (q6_lattice o0)), .ref a0_lattice_tally, .int (q3_points (q6_lattice o0)), .int (q3_all (q6_lattice o0))]))] res [(a0, .inr (6, [.ref a0_text, .ref a0_history, .ref a0_lattice, .ref a0_graph, .ref a0_matching, .ref a0_now, .ref a0_saved, .ref a0_next, .int (q6_hasSaved o0)])), (a0_lattice, .inr (3, [.ref a0_lattice_closed, .ref a0_lattice_ranks, .ref a0_lattice_numbers, .ref a0_lattice_sets, .ref a0_lattice_rankSizes, .int (q3_size (q6_lattice o0)), .ref a0_lattice_tally, .int (q3_points (q6_lattice o0)), .int (q3_all (q6_lattice o0))]))] := by
  refine XV_of hst (by decide +kernel) (Nat.le_of_ble_eq_true rfl) (fun {p e s m args below meth c} A R hR Q hQ C D hr => ?_)
  unfold fX6_checkFace at h
  refine g_lv [0, 1] [(0, .ref a0), (1, .int p1)] rfl ?_
  refine g_iload_n C dX6_checkFace_0 rfl 1 rfl ?_
  refine g_if_lt C 15 dX6_checkFace_1 (by decide) (fun c1 => ?_) (fun c1 => ?_)
  · replace h := it_t c1 h
    obtain rfl := Option.some.inj h
    subst hQ
    exact gx_throwV C D rfl rfl (by decide +kernel) mw_3_188 mw_1_20 xat2 xng2 xgd2 dX6_checkFace_15 dX6_checkFace_18 dX6_checkFace_19 dX6_checkFace_22 (by rw [hR]; exact Nat.le_of_ble_eq_true rfl) (by rw [hR]; exact Nat.le_of_ble_eq_true rfl) (by rw [hR]; exact Nat.le_of_ble_eq_true rfl) (by rw [hR]; exact Nat.le_of_ble_eq_true rfl) (Nat.le_of_ble_eq_true rfl) (Nat.le_of_ble_eq_true rfl) [0, 1] rfl (by decide)
  · replace h := it_f c1 h
    refine g_iload_n C dX6_checkFace_4 rfl 1 rfl ?_
    refine g_aload_n C dX6_checkFace_5 rfl 0 rfl ?_
    refine g_get C 6 26 gin6 0 rfl rfl 2 (by decide) mw_1_221 rfl rfl dX6_checkFace_6 ?_
    refine g_get C 3 137 gin3 1 rfl rfl 5 (by decide) mw_1_119 rfl rfl dX6_checkFace_9 ?_
    refine g_icmp_lt C 23 dX6_checkFace_12 (by decide) (fun c2 => ?_) (fun c2 => ?_)
    · replace h := it_t c2 h
      obtain rfl := Option.some.inj h
      subst hQ
      exact gx_vret C D rfl hr (Nat.le_of_ble_eq_true rfl) (Nat.le_of_ble_eq_true rfl) dX6_checkFace_23 [0, 1] rfl (by decide)
    · replace h := it_f c2 h
      obtain rfl := Option.some.inj h
      subst hQ
      exact gx_throwV C D rfl rfl (by decide +kernel) mw_3_188 mw_1_20 xat2 xng2 xgd2 dX6_checkFace_15 dX6_checkFace_18 dX6_checkFace_19 dX6_checkFace_22 (by rw [hR]; exact Nat.le_of_ble_eq_true rfl) (by rw [hR]; exact Nat.le_of_ble_eq_true rfl) (by rw [hR]; exact Nat.le_of_ble_eq_true rfl) (by rw [hR]; exact Nat.le_of_ble_eq_true rfl) (Nat.le_of_ble_eq_true rfl) (Nat.le_of_ble_eq_true rfl) [0, 1] rfl (by decide)
theorem fX6_checkFace_v (o0 : OX6) (p1 : Int32) (v : Int32) (h : fX6_checkFace o0 p1 = some (.inr v)) : v = 0 := by
  unfold fX6_checkFace at h
  (repeat' first | (obtain ⟨_, _, h⟩ := bd_of h) | (rcases xb_of h with ⟨_, _, h⟩ | ⟨_, _, h⟩) | split at h) <;> first | (cases h; rfl) | cases h
def fX6_checkSet (o0 : OX6) (p1 : Int32) : Option ((Nat ⊕ Int32)) :=
  (fX2_isSet (q6_now o0) p1).bind fun r1 =>
  (if r1 = 0 then (some (.inl 1))
  else (some (.inr 0)))
theorem myX6_checkSet : MYv yX6_checkSet cX6_checkSet 2 none 1 := ⟨mw_3_230, ms_23, mw_3_231, mw_1_1, ⟨by decide +kernel, by decide +kernel⟩, by decide +kernel⟩
set_option maxRecDepth 100000 in
set_option maxHeartbeats 4000000 in
theorem kX6_checkSet (l : Launch) (hst : l.stackTraces = false) (Z : GZ) (Y : YZ) (a0 a0_text a0_history a0_lattice a0_graph a0_matching a0_now a0_now_sets a0_saved a0_next : Nat) (o0 : OX6) (p1 : Int32) (res : (Nat ⊕ Int32)) (h : fX6_checkSet o0 p1 = some res) : XV l Z Y yX6_checkSet cX6_checkSet 2 6 89 1 6 [.ref a0, .int p1] [(a0, .inr (6, [.ref a0_text, .ref a0_history, .ref a0_lattice, .ref a0_graph, .ref a0_matching, .ref a0_now, .ref a0_saved, .ref a0_next, .int (q6_hasSaved o0)])), (a0_now, .inr (2, [.ref a0_now_sets, .int (q2_points (q6_now o0)), .int (q2_facets (q6_now o0))]))] res [(a0, .inr (6, [.ref a0_text, .ref a0_history, .ref a0_lattice, .ref a0_graph, .ref a0_matching, .ref a0_now, .ref a0_saved, .ref a0_next, .int (q6_hasSaved o0)])), (a0_now, .inr (2, [.ref a0_now_sets, .int (q2_points (q6_now o0)), .int (q2_facets (q6_now o0))]))] := by
  refine XV_of hst (by decide +kernel) (Nat.le_of_ble_eq_true rfl) (fun {p e s m args below meth c} A R hR Q hQ C D hr => ?_)
  unfold fX6_checkSet at h
  refine g_lv [0, 1] [(0, .ref a0), (1, .int p1)] rfl ?_
  refine g_aload_n C dX6_checkSet_0 rfl 0 rfl ?_
  refine g_get C 6 47 gin6 0 rfl rfl 5 (by decide) mw_1_224 rfl rfl dX6_checkSet_1 ?_
  refine g_iload_n C dX6_checkSet_4 rfl 1 rfl ?_
  obtain ⟨r1, hr2, h⟩ := bd_of h
  refine g_callVi C (kX2_isSet l Z a0_now a0_now_sets (q6_now o0) p1 r1 hr2) 0 rfl (ci := 2) rfl rfl myX2_isSet 181 mw_2_156 rfl [1] [0] [0, 1] (wr := [(a0, .inr (6, [.ref a0_text, .ref a0_history, .ref a0_lattice, .ref a0_graph, .ref a0_matching, .ref a0_now, .ref a0_saved, .ref a0_next, .int (q6_hasSaved o0)]))]) rfl rfl (by decide) (by decide) (by decide) [(a0, .inr (6, [.ref a0_text, .ref a0_history, .ref a0_lattice, .ref a0_graph, .ref a0_matching, .ref a0_now, .ref a0_saved, .ref a0_next, .int (q6_hasSaved o0)])), (a0_now, .inr (2, [.ref a0_now_sets, .int (q2_points (q6_now o0)), .int (q2_facets (q6_now o0))]))] rfl (by decide) (Nat.le_of_ble_eq_true rfl) (by rw [hR]; exact Nat.le_of_ble_eq_true rfl) (by rw [hR]; exact Nat.le_of_ble_eq_true rfl) ⟨by rw [hR]; exact Nat.le_of_ble_eq_true rfl, by rw [hR]; exact Nat.le_of_ble_eq_true rfl⟩ rfl dX6_checkSet_5 ?_
  refine g_if_ne C 19 dX6_checkSet_8 (by decide) (fun c3 => ?_) (fun c3 => ?_)
  · replace h := it_f c3 h
    obtain rfl := Option.some.inj h
    subst hQ
    exact gx_vret C D rfl hr (Nat.le_of_ble_eq_true rfl) (Nat.le_of_ble_eq_true rfl) dX6_checkSet_19 [0, 1] rfl (by decide)
  · replace h := it_t c3 h
    obtain rfl := Option.some.inj h
    subst hQ
    exact gx_throwV C D rfl rfl (by decide +kernel) mw_3_150 mw_1_14 xat1 xng1 xgd1 dX6_checkSet_11 dX6_checkSet_14 dX6_checkSet_15 dX6_checkSet_18 (by rw [hR]; exact Nat.le_of_ble_eq_true rfl) (by rw [hR]; exact Nat.le_of_ble_eq_true rfl) (by rw [hR]; exact Nat.le_of_ble_eq_true rfl) (by rw [hR]; exact Nat.le_of_ble_eq_true rfl) (Nat.le_of_ble_eq_true rfl) (Nat.le_of_ble_eq_true rfl) [0, 1] rfl (by decide)
theorem fX6_checkSet_v (o0 : OX6) (p1 : Int32) (v : Int32) (h : fX6_checkSet o0 p1 = some (.inr v)) : v = 0 := by
  unfold fX6_checkSet at h
  (repeat' first | (obtain ⟨_, _, h⟩ := bd_of h) | (rcases xb_of h with ⟨_, _, h⟩ | ⟨_, _, h⟩) | split at h) <;> first | (cases h; rfl) | cases h

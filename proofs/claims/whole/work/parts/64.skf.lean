/-! setIncident, addFacet, removeFacet: the calls -/
section SF
theorem NowR.put {n m : Nat} {F : Nat → Nat} {g : Nat → Int32} (h : NowR n m F g) {f : Nat} (hf : f < m) (v : Nat) : NowR n m (up1 F f v) (upd g (2 + f) (nI v)) := by
  refine ⟨(upd_ne _ _ (by omega)).trans h.1, (upd_ne _ _ (by omega)).trans h.2.1, fun j hj => ?_⟩
  by_cases e : j = f
  · rw [e, upd_at, up1_at]
  · rw [upd_ne _ _ (by omega), up1_ne _ _ e]; exact h.2.2 j hj
theorem NowR.addf {n m : Nat} {F : Nat → Nat} {g : Nat → Int32} (h : NowR n m F g) (v : Nat) : NowR n (m + 1) (up1 F m v) (upd (upd g (2 + m) (nI v)) 1 (nI (m + 1))) := by
  refine ⟨(upd_ne _ _ (by omega)).trans ((upd_ne _ _ (by omega)).trans h.1), upd_at _ _ _, fun j hj => ?_⟩
  refine (upd_ne _ _ (by omega)).trans ?_
  by_cases e : j = m
  · rw [e, upd_at, up1_at]
  · rw [upd_ne _ _ (by omega), up1_ne _ _ e]; exact h.2.2 j (by omega)
theorem up1_V {n m : Nat} {F : Nat → Nat} (hv : IncV n m F) (f : Nat) {v : Nat} (h : v < 2 ^ n) : IncV n m (up1 F f v) := ⟨hv.1, hv.2.1, hv.2.2.1, fun j hj => by
  by_cases e : j = f
  · rw [e, up1_at]; exact h
  · rw [up1_ne _ _ e]; exact hv.2.2.2 j hj⟩
variable {o : OX6} {r : OX7}
theorem sk_4 (h : Rel o r) (x y b : Int32) : SK_4 Rel o r x y b := by
  obtain ⟨n, m, F, hv, hi, hl, hN, hL, hH, hS, hT⟩ := h
  obtain ⟨c, d, H, hc, hd, hA, hB, hE⟩ := HiR_to hH
  have hn := hv.2.1
  have h8 := p2_256 hn
  have hm := hv.2.2.1
  unfold SK_4 fX6_setIncident fX7_setIncident fX7_setIncident_J26 fX7_setIncident_J27
  rw [eX6_checkPoint hv hi x, eX6_checkFacet hv hi y, bd_s (eX7_isPoint (o := s7_thrown r 0) hv hN x), bd_s (eX7_isFacet (o := s7_thrown r 0) hv hN y), eX7_fails_0, eX7_fails_1, Option.bind_some, Option.bind_some]
  rcases bool_ft (okI x n) with hx | hx
  · rw [if_bf hx, if0_f hx]
    exact ⟨(.inl 2, _), _, rfl, if_neg n10, sk_il rfl, hc_2.symm, sk_vl, n, m, F, hv, hi, hl, hN, hL, hH, hS, hT⟩
  · rw [if_pos hx, if0_t hx]
    rcases bool_ft (okI y m) with hy | hy
    · rw [if_bf hy, if0_f hy]
      exact ⟨(.inl 2, _), _, rfl, if_neg n10, sk_il rfl, hc_2.symm, sk_vl, n, m, F, hv, hi, hl, hN, hL, hH, hS, hT⟩
    · obtain ⟨p, hp, rfl⟩ := okI_of hx (by omega)
      obtain ⟨f, hf, rfl⟩ := okI_of hy (by omega)
      have hFf := hv.2.2.2 f hf
      obtain ⟨z1, a1, a2⟩ := eX2_copyFrom (q6_next o) hi hm
      obtain ⟨z2, b1, b2⟩ := eX2_put a2 hf hm (p := p) (by omega) (bz b)
      have hv' : IncV n m (up1 F f (if bz b = 0 then dif (F f) (2 ^ p) else F f ||| 2 ^ p)) := up1_V hv f (by
        split
        · exact dif_lt hFf
        · exact or_p2 hFf hp)
      obtain ⟨z, c1, c2⟩ := eX6_change (o := ((q6_text o), (q6_history o), (q6_lattice o), (q6_graph o), (q6_matching o), (q6_now o), (q6_saved o), ((q2_sets z2), (q2_points z1), (q2_facets z1)), (q6_hasSaved o))) hc hd hA hv hi hv' ⟨a2.1, a2.2.1, b2.2.2⟩
      obtain ⟨w, w1, w2, w3, w4⟩ := eX7_record (o := s7_thrown r (q7_thrown (s7_thrown r 0))) hc (hi_V hA) hB hE hm hN
      have okf : okI (2 + nI f) 12 = true := ok12 (by omega)
      rw [if_pos hy, if0_t hy, Option.bind_some, xb_r, Option.bind_some, xb_r, bd_s (eX2_has hi hv hf (by omega)), bd_s a1, bd_s b1, bd_s c1, ck_t (bi_t _), if_pos (show ((0 : Int32), s7_thrown r 0).1 = 0 from rfl)]
      dsimp only
      rw [bd_s w1, ck_t okf, hN.f hf hm, bd_s (eX7_has (by omega) (by omega)), ck_t okf, ck_t okf, ck_t okf, ck_t okf, ck_t (bi_t _), ck_t (bi_t _), p_shl1 (by omega), p_dif, p_or]
      have hNn := NowR.put hN hf (if bz b = 0 then dif (F f) (2 ^ p) else F f ||| 2 ^ p)
      rw [show 2 + f = ix (2 + nI f) by rw [p_2a, p_ix (by omega)]] at hNn
      have c3 := c2.up (q6_text o) (q1_ring (q6_history o)) (q3_tally (q6_lattice o)) (q6_graph o) (q6_matching o) (q6_saved o) ((q2_sets z2), (q2_points z1), (q2_facets z1)) (q6_hasSaved o)
      by_cases e : bz b = 0
      · have hNn2 : NowR n m (up1 F f (if bz b = 0 then dif (F f) (2 ^ p) else F f ||| 2 ^ p)) (upd (q7_now r) (ix (2 + nI f)) (nI (dif (F f) (2 ^ p)))) := by
          rw [if_pos e] at hNn ⊢; exact hNn
        rw [if_pos e]
        exact ⟨_, _, rfl, rfl, sk_ir, rfl, sk_vr rfl, n, m, _, hv', c3.1, c3.2.1, hNn2, Or.inl w3, HiR_of (hcn_8 hc) (hdn_8 hd) c3.2.2 w4 w2, hS, hT⟩
      · have hNn2 : NowR n m (up1 F f (if bz b = 0 then dif (F f) (2 ^ p) else F f ||| 2 ^ p)) (upd (q7_now r) (ix (2 + nI f)) (nI (F f ||| 2 ^ p))) := by
          rw [if_neg e] at hNn ⊢; exact hNn
        rw [if_neg e]
        exact ⟨_, _, rfl, rfl, sk_ir, rfl, sk_vr rfl, n, m, _, hv', c3.1, c3.2.1, hNn2, Or.inl w3, HiR_of (hcn_8 hc) (hdn_8 hd) c3.2.2 w4 w2, hS, hT⟩
theorem sk_5 (h : Rel o r) (x : Int32) : SK_5 Rel o r x := by
  obtain ⟨n, m, F, hv, hi, hl, hN, hL, hH, hS, hT⟩ := h
  obtain ⟨c, d, H, hc, hd, hA, hB, hE⟩ := HiR_to hH
  have hn := hv.2.1
  have h8 := p2_256 hn
  have hm := hv.2.2.1
  unfold SK_5 fX6_addFacet fX7_addFacet fX7_addFacet_J35
  rw [eX6_checkSet hv hi x, bd_s (eX7_isSet (o := s7_thrown r 0) hv hN x), hi.2.1]
  rcases bool_ft (okI x (2 ^ n)) with hx | hx
  · rw [if_bf hx, bd_s (eX7_fails_f _ hx 1)]
    exact ⟨(.inl 1, _), _, rfl, if_neg n10, sk_il (Or.inl rfl), hc_10.1.symm, sk_vl, n, m, F, hv, hi, hl, hN, hL, hH, hS, hT⟩
  · obtain ⟨s, hs, rfl⟩ := okI_of hx (by omega)
    rw [if_pos hx, bd_s (eX7_fails_t _ hx 1), Option.bind_some, xb_r]
    dsimp only
    rw [if_pos (rfl : (0 : Int32) = 0), hN.m]
    by_cases e : m < 10
    · obtain ⟨z1, a1, a2⟩ := eX2_copyFrom (q6_next o) hi hm
      obtain ⟨z2, b1, b2⟩ := eX2_add a2 e s
      have hv' : IncV n (m + 1) (up1 F m s) := ⟨hv.1, hn, by omega, fun j hj => by
        by_cases e : j = m
        · rw [e, up1_at]; exact hs
        · rw [up1_ne _ _ e]; exact hv.2.2.2 j (by omega)⟩
      obtain ⟨z, c1, c2⟩ := eX6_change (o := ((q6_text o), (q6_history o), (q6_lattice o), (q6_graph o), (q6_matching o), (q6_now o), (q6_saved o), ((q2_sets z2), (q2_points z1), (q2_facets z2)), (q6_hasSaved o))) hc hd hA hv hi hv' ⟨a2.1, b2.2.1, b2.2.2⟩
      obtain ⟨w, w1, w2, w3, w4⟩ := eX7_record (o := s7_thrown r (q7_thrown (s7_thrown r (q7_thrown (s7_thrown r 0))))) hc (hi_V hA) hB hE hm hN
      have hNn := NowR.addf hN s
      have c3 := c2.up (q6_text o) (q1_ring (q6_history o)) (q3_tally (q6_lattice o)) (q6_graph o) (q6_matching o) (q6_saved o) ((q2_sets z2), (q2_points z1), (q2_facets z2)) (q6_hasSaved o)
      rw [if_pos (show nI m < 10 from nI_lt (b := 10) e (by omega)), if_neg (show ¬ (10 : Int32) ≤ nI m from nI_ge (b := 10) e (by omega)), bd_s a1, bd_s b1, bd_s c1, eX7_fails_1, Option.bind_some]
      dsimp only
      rw [if_pos (rfl : (0 : Int32) = 0), bd_s w1, p_2a, ck_t (p_ok (by omega) (by decide)), p_ix (by omega), p_ix1, upd_at, upd_ne _ _ (show 1 ≠ 2 + m by omega), hN.2.1, p_s1]
      exact ⟨_, _, rfl, rfl, sk_ir, rfl, sk_vr (by show nI (m + 1) - 1 = q2_facets (q6_now z) - 1; rw [c2.1.2.1]), n, m + 1, _, hv', c3.1, c3.2.1, hNn, Or.inl w3, HiR_of (hcn_8 hc) (hdn_8 hd) c3.2.2 w4 w2, hS, hT⟩
    · rw [if_neg (show ¬ nI m < 10 from nI_nlt (b := 10) (by omega) (by omega)), if_pos (show (10 : Int32) ≤ nI m from nI_le (a := 10) (by omega) (by omega)), eX7_fails_0, Option.bind_some]
      exact ⟨(.inl 0, _), _, rfl, if_neg n10, sk_il (Or.inr rfl), hc_10.2.symm, sk_vl, n, m, F, hv, hi, hl, hN, hL, hH, hS, hT⟩
theorem eX7_dropFacet {n m : Nat} {F : Nat → Nat} {o : OX7} (hm : m ≤ 10) (h : NowR n m F (q7_now o)) {f : Nat} (hf : f < m) : ∃ z, fX7_dropFacet o (nI f) = some z ∧ NowR n (m - 1) (rem1 F f) (q7_now z) := by
  unfold fX7_dropFacet
  have hm1 : q7_now o (ix 1) - 1 = nI (m - 1) := by rw [h.m]; exact p_sub (b := 1) (by omega)
  rw [hm1, p_ix1]
  refine lp_inv (fun t v => v.1 = nI (f + t) ∧ v.2 0 = nI n ∧ v.2 1 = nI (m - 1) ∧ (∀ j, j < f + t → v.2 (2 + j) = nI (rem1 F f j)) ∧ ∀ j, f + t ≤ j → j < m → v.2 (2 + j) = nI (F j)) _ (m - 1 - f) ?_ (fun t v ht hI => Or.inl ?_) (fun v hI => ?_) (lpN_gt (by omega))
  · show nI f = nI (f + 0) ∧ upd (q7_now o) 1 (nI (m - 1)) 0 = nI n ∧ upd (q7_now o) 1 (nI (m - 1)) 1 = nI (m - 1) ∧ (∀ j, j < f + 0 → upd (q7_now o) 1 (nI (m - 1)) (2 + j) = nI (rem1 F f j)) ∧ ∀ j, f + 0 ≤ j → j < m → upd (q7_now o) 1 (nI (m - 1)) (2 + j) = nI (F j)
    refine ⟨rfl, (upd_ne _ _ (by decide)).trans h.1, upd_at _ _ _, fun j hj => ?_, fun j _ hj => (upd_ne _ _ (by omega)).trans (h.2.2 j hj)⟩
    refine (upd_ne _ _ (by omega)).trans ((h.2.2 j (by omega)).trans ?_)
    unfold rem1
    rw [if_pos (by omega)]
  · obtain ⟨vt, T⟩ := v
    obtain ⟨h1, h2, h3, h4, h5⟩ := hI
    dsimp only at h1 h2 h3 h4 h5
    subst h1
    unfold fX7_dropFacet_L12
    dsimp only
    rw [p_ix1, if_neg (show ¬ T 1 ≤ nI (f + t) by rw [h3]; exact nI_ge (by omega) (by omega)), p_2a, p_s1, ck_t (p_ok (by omega) (by decide)), ck_t (p_ok (by omega) (by decide)), p_ix (by omega), p_ix (by omega), p_s1]
    refine ⟨_, rfl, rfl, (upd_ne _ _ (by omega)).trans h2, (upd_ne _ _ (by omega)).trans h3, fun j hj => ?_, fun j hj hjm => (upd_ne _ _ (by omega)).trans (h5 j (by omega) hjm)⟩
    show upd T _ _ _ = _
    by_cases e : j = f + t
    · rw [e, upd_at, show 2 + (f + t) + 1 = 2 + (f + t + 1) by omega, h5 (f + t + 1) (by omega) (by omega)]
      unfold rem1
      rw [if_neg (by omega)]
    · rw [upd_ne _ _ (by omega)]; exact h4 j (by omega)
  · obtain ⟨vt, T⟩ := v
    obtain ⟨h1, h2, h3, h4, h5⟩ := hI
    dsimp only at h1 h2 h3 h4 h5
    subst h1
    unfold fX7_dropFacet_L12
    dsimp only
    rw [p_ix1, if_pos (show T 1 ≤ nI (f + (m - 1 - f)) by rw [h3]; exact nI_le (by omega) (by omega)), h3, p_2a, ck_t (p_ok (by omega) (by decide)), p_ix (by omega)]
    refine ⟨_, rfl, (upd_ne _ _ (by omega)).trans h2, (upd_ne _ _ (by omega)).trans h3, fun j hj => (upd_ne _ _ (by omega)).trans (h4 j (by omega))⟩
theorem sk_6 (h : Rel o r) (x : Int32) : SK_6 Rel o r x := by
  obtain ⟨n, m, F, hv, hi, hl, hN, hL, hH, hS, hT⟩ := h
  obtain ⟨c, d, H, hc, hd, hA, hB, hE⟩ := HiR_to hH
  have hm := hv.2.2.1
  unfold SK_6 fX6_removeFacet fX7_removeFacet
  rw [eX6_checkFacet hv hi x, bd_s (eX7_isFacet (o := s7_thrown r 0) hv hN x)]
  rcases bool_ft (okI x m) with hx | hx
  · rw [if_bf hx, bd_s (eX7_fails_f _ hx 1)]
    exact ⟨(.inl 2, _), _, rfl, if_neg n10, sk_il rfl, hc_2.symm, sk_vl, n, m, F, hv, hi, hl, hN, hL, hH, hS, hT⟩
  · obtain ⟨f, hf, rfl⟩ := okI_of hx (by omega)
    obtain ⟨z1, a1, a2⟩ := eX2_copyFrom (q6_next o) hi hm
    obtain ⟨z2, b1, b2⟩ := eX2_remove a2 hf hm
    have hv' : IncV n (m - 1) (rem1 F f) := ⟨hv.1, hv.2.1, by omega, fun j hj => by
      unfold rem1
      split
      · exact hv.2.2.2 j (by omega)
      · exact hv.2.2.2 (j + 1) (by omega)⟩
    obtain ⟨z, c1, c2⟩ := eX6_change (o := ((q6_text o), (q6_history o), (q6_lattice o), (q6_graph o), (q6_matching o), (q6_now o), (q6_saved o), ((q2_sets z2), (q2_points z1), (q2_facets z2)), (q6_hasSaved o))) hc hd hA hv hi hv' ⟨a2.1, b2.2.1, b2.2.2⟩
    obtain ⟨w, w1, w2, w3, w4⟩ := eX7_record (o := s7_thrown r (q7_thrown (s7_thrown r 0))) hc (hi_V hA) hB hE hm hN
    obtain ⟨y, y1, y2⟩ := eX7_dropFacet (o := s7_isLaid (s7_entries (s7_history (s7_thrown r (q7_thrown (s7_thrown r 0))) (q7_history w)) (q7_entries w)) (q7_isLaid w)) hm hN hf
    have c3 := c2.up (q6_text o) (q1_ring (q6_history o)) (q3_tally (q6_lattice o)) (q6_graph o) (q6_matching o) (q6_saved o) ((q2_sets z2), (q2_points z1), (q2_facets z2)) (q6_hasSaved o)
    rw [if_pos hx, bd_s (eX7_fails_t _ hx 1), Option.bind_some, xb_r]
    dsimp only
    rw [if_pos (rfl : (0 : Int32) = 0), ck_t (p_ok (by omega) (by decide)), bd_s a1, bd_s b1, bd_s c1, bd_s w1, ck_t (ok12 (by omega)), bd_s y1, hN.f hf hm, p_ix (by omega), hi.2.2 f hf]
    exact ⟨_, _, rfl, rfl, sk_ir, rfl, sk_vr rfl, n, m - 1, _, hv', c3.1, c3.2.1, y2, Or.inl w3, HiR_of (hcn_8 hc) (hdn_8 hd) c3.2.2 w4 w2, hS, hT⟩
end SF

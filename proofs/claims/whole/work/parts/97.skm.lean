/-! the matching's calls -/
theorem isoT_len {n m n' m' : Nat} {F G : Nat → Nat} (hn : n ≤ 8) : (isoT n m F n' m' G).length < 2147483648 := by
  have hp8 : 8 ^ n ≤ 8 ^ 8 := Nat.pow_le_pow_right (by decide) hn
  have h88 : (8 : Nat) ^ 8 = 16777216 := by decide
  have h := elS_len (ok := isoB n m F G) hn n []
  unfold isoT
  split
  · split
    · omega
    · exact (by decide : (0 : Nat) < 2147483648)
  · exact (by decide : (0 : Nat) < 2147483648)
section SKM
variable {o : OX6} {r : OX7}
theorem sk_45 (h : Rel o r) : SK_45 Rel o r := by
  obtain ⟨n, m, F, hv, hi, hl, hN, hL, hH, hS, hT⟩ := h
  have h1n := hv.1
  obtain ⟨w, w1, w2⟩ := eX4_countOnto (o := q6_matching o) hv hi
  obtain ⟨u, u1, u2, u3⟩ := eX7_isomorphisms (g := 0) (o := s7_thrown r 0) (o1 := q7_now r) hv hv hN hN (by omega)
  unfold SK_45 fX6_automorphisms fX7_automorphisms
  rw [bd_s w1, show fX7_isomorphisms (s7_thrown r 0) (q7_now r) 0 = some u from u1, Option.bind_some]
  exact ⟨_, _, rfl, rfl, w2.trans u2.symm, n, m, F, hv, hi, hl, hN, hL, hH, hS, hT⟩
theorem sk_46 (h : Rel o r) (x : Int32) : SK_46 Rel o r x := by
  obtain ⟨n, m, F, hv, hi, hl, hN, hL, hH, hS, hT⟩ := h
  have hn := hv.2.1
  unfold SK_46 fX6_orbit fX7_orbit
  rw [eX6_checkPoint hv hi x, bd_s (eX7_isPoint (o := s7_thrown r 0) hv hN x)]
  rcases bool_ft (okI x n) with hx | hx
  · rw [if_bf hx, bd_s (eX7_fails_f _ hx 1)]
    exact ⟨(.inl 2, _), _, rfl, if_neg n10, sk_il rfl, hc_2.symm, sk_vl, n, m, F, hv, hi, hl, hN, hL, hH, hS, hT⟩
  · obtain ⟨k, hk, rfl⟩ := okI_of hx (by omega)
    obtain ⟨w, w1, w2⟩ := eX4_imagesOnto (o := q6_matching o) hv hi hk
    obtain ⟨u, u1, u2, u3⟩ := eX7_isomorphisms (g := k) (o := s7_thrown r 0) (o1 := q7_now r) hv hv hN hN hk
    rw [if_pos hx, Option.bind_some, xb_r, bd_s (eX7_fails_t _ hx 1), if_pos rfl, bd_s w1, show fX7_isomorphisms (s7_thrown r (q7_thrown (s7_thrown r 0))) (q7_now r) (nI k) = some u from u1, Option.bind_some]
    exact ⟨_, _, rfl, rfl, sk_ir, rfl, sk_vr (u3.2.1.trans w2.symm), n, m, F, hv, hi, hl, hN, hL, hH, hS, hT⟩
theorem sk_47 (h : Rel o r) : SK_47 Rel o r := by
  obtain ⟨n, m, F, hv, hi, hl, hN, hL, hH, hS, hT⟩ := h
  have hn := hv.2.1
  have h1n := hv.1
  unfold SK_47 fX6_isLike fX7_isLike
  rcases hS.2 with z | ⟨z, n', m', G, hv', hi', hN'⟩
  · rw [if_pos z, show q7_isSaved r = 0 from hS.1.symm.trans z, eX7_fails_0, Option.bind_some]
    exact ⟨(.inl 0, _), _, rfl, if_neg n10, sk_il rfl, hc_0.symm, sk_vl, n, m, F, hv, hi, hl, hN, hL, hH, hS, hT⟩
  · have z0 : ¬ q6_hasSaved o = 0 := fun y => n10 (z.symm.trans y)
    obtain ⟨w, w1, w2⟩ := eX4_find (o := q6_matching o) hv hv' hi hi'
    obtain ⟨u, u1, u2, u3⟩ := eX7_isomorphisms (g := 0) (o := s7_thrown r 0) (o1 := q7_saved r) hv hv' hN hN' (by omega)
    have hlen := isoT_len (m := m) (n' := n') (m' := m') (F := F) (G := G) hn
    rw [if_neg z0, show q7_isSaved r = 1 from hS.1.symm.trans z, eX7_fails_1, Option.bind_some, if_pos rfl, bd_s w1, show fX7_isomorphisms (s7_thrown r (q7_thrown (s7_thrown r 0))) (q7_saved r) 0 = some u from u1, Option.bind_some]
    rcases w2 with ⟨e, hne, _⟩ | ⟨e, hnil⟩
    · have hpos : 0 < (isoT n m F n' m' G).length := Nat.pos_of_ne_zero fun y => hne (List.length_eq_zero_iff.mp y)
      have hu : ¬ u.1 ≤ 0 := by
        rw [u2]
        exact nI_nle hpos hlen
      rw [ck_t (show is01 w.1 = true by rw [e]; decide), if_neg hu]
      exact ⟨_, _, rfl, rfl, sk_ir, rfl, sk_vr e.symm, n, m, F, hv, hi, hl, hN, hL, hH, hS, hT⟩
    · have hu : u.1 ≤ 0 := by
        rw [u2, hnil]
        decide
      rw [ck_t (show is01 w.1 = true by rw [e]; decide), if_pos hu]
      exact ⟨_, _, rfl, rfl, sk_ir, rfl, sk_vr e.symm, n, m, F, hv, hi, hl, hN, hL, hH, hS, hT⟩
theorem sk_48 (h : Rel o r) (x : Int32) : SK_48 Rel o r x := by
  obtain ⟨n, m, F, hv, hi, hl, hN, hL, hH, hS, hT⟩ := h
  have hn := hv.2.1
  have h1n := hv.1
  unfold SK_48 fX6_image fX7_image
  rw [eX6_checkPoint hv hi x, bd_s (eX7_isPoint (o := s7_thrown r 0) hv hN x)]
  rcases bool_ft (okI x n) with hx | hx
  · rw [if_bf hx, bd_s (eX7_fails_f _ hx 1)]
    exact ⟨(.inl 2, _), _, rfl, if_neg n10, sk_il (Or.inl rfl), hc_203.1.symm, sk_vl, n, m, F, hv, hi, hl, hN, hL, hH, hS, hT⟩
  · obtain ⟨k, hk, rfl⟩ := okI_of hx (by omega)
    rw [if_pos hx, Option.bind_some, xb_r, bd_s (eX7_fails_t _ hx 1), if_pos rfl]
    rcases hS.2 with z | ⟨z, n', m', G, hv', hi', hN'⟩
    · rw [if_pos z, show q7_isSaved r = 0 from hS.1.symm.trans z, eX7_fails_0, Option.bind_some]
      exact ⟨(.inl 0, _), _, rfl, if_neg n10, sk_il (Or.inr (Or.inl rfl)), hc_203.2.1.symm, sk_vl, n, m, F, hv, hi, hl, hN, hL, hH, hS, hT⟩
    · have z0 : ¬ q6_hasSaved o = 0 := fun y => n10 (z.symm.trans y)
      obtain ⟨w, w1, w2⟩ := eX4_find (o := q6_matching o) hv hv' hi hi'
      obtain ⟨u, u1, u2, u3⟩ := eX7_isomorphisms (g := 0) (o := s7_thrown r 0) (o1 := q7_saved r) hv hv' hN hN' (by omega)
      have hlen := isoT_len (m := m) (n' := n') (m' := m') (F := F) (G := G) hn
      have hok : okI (nI k) 8 = true := p_ok (by omega) (by decide)
      rw [if_neg z0, show q7_isSaved r = 1 from hS.1.symm.trans z, eX7_fails_1, Option.bind_some, if_pos rfl, bd_s w1, show fX7_isomorphisms (s7_thrown r (q7_thrown (s7_thrown r (q7_thrown (s7_thrown r 0))))) (q7_saved r) 0 = some u from u1, Option.bind_some]
      rcases w2 with ⟨e, hne, himg⟩ | ⟨e, hnil⟩
      · have hpos : 0 < (isoT n m F n' m' G).length := Nat.pos_of_ne_zero fun y => hne (List.length_eq_zero_iff.mp y)
        have hu : ¬ u.1 ≤ 0 := by
          rw [u2]
          exact nI_nle hpos hlen
        rw [if_neg (show ¬ w.1 = 0 by rw [e]; exact n10), if_neg hu, ck_t hok, p_ix (by omega), himg k hk]
        unfold fX7_image_J50
        rw [eX7_fails_1, Option.bind_some, if_pos rfl, ck_t hok, p_ix (by omega), u3.2.2 hne k hk]
        exact ⟨_, _, rfl, rfl, sk_ir, rfl, sk_vr rfl, n, m, F, hv, hi, hl, hN, hL, hH, hS, hT⟩
      · have hu : u.1 ≤ 0 := by
          rw [u2, hnil]
          decide
        rw [if_pos e, if_pos hu]
        unfold fX7_image_J50
        rw [eX7_fails_0, Option.bind_some]
        exact ⟨(.inl 3, _), _, rfl, if_neg n10, sk_il (Or.inr (Or.inr rfl)), hc_203.2.2.symm, sk_vl, n, m, F, hv, hi, hl, hN, hL, hH, hS, hT⟩
end SKM

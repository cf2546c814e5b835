/-! undo, save, restore; one facet's points, facets added and removed: the calls -/
section SC
variable {n m : Nat} {F : Nat → Nat}
theorem hi_V {h6 : OX1} {c d : Nat} {H : Nat → Nat × Nat × (Nat → Nat)} (a : HiA h6 c d H) (i : Nat) (hi : i < c) : (H i).2.1 ≤ 10 := (a.2.2 i hi).1.2.2.1
theorem i8 : (8 : Int32) = nI 8 := rfl
variable {o : OX6} {r : OX7}
theorem sk_13 (h : Rel o r) : SK_13 Rel o r := by
  obtain ⟨n, m, F, hv, hi, hl, hN, hL, hH, hS, hT⟩ := h
  obtain ⟨c, d, H, hc, hd, hA, hB, hE⟩ := HiR_to hH
  unfold SK_13 fX6_undo fX7_undo fX7_undo_J18
  rw [eX7_fails_0, eX7_fails_1, Option.bind_some, Option.bind_some, if_neg (show ¬ ((1 : Int32), s7_thrown (s7_thrown r 0) 1).1 = 0 from n10), if_pos (show ((0 : Int32), s7_thrown r 0).1 = 0 from rfl)]
  rcases Nat.eq_zero_or_pos c with e | e
  · subst e
    rw [if_pos (show q1_count (q6_history o) = 0 from hA.1), if_pos (by rw [hE]; decide)]
    exact ⟨(.inl 0, _), _, rfl, rfl, sk_il rfl, hc_0.symm, sk_vl, n, m, F, hv, hi, hl, hN, hL, hH, hS, hT⟩
  · have hcn : ¬ q1_count (q6_history o) = 0 := by rw [hA.1, p_eq0 (by omega)]; omega
    have hcl : ¬ q1_count (q6_history o) ≤ 0 := by rw [hA.1]; exact nI_nle e (by omega)
    have hel : ¬ q7_entries r ≤ 0 := by rw [hE]; exact nI_nle e (by omega)
    have hc1 : q1_count (q6_history o) - 1 = nI (c - 1) := by rw [hA.1]; exact p_sub (b := 1) e
    have he1 : q7_entries r - 1 = nI (c - 1) := by rw [hE]; exact p_sub (b := 1) e
    have hlt : (d + (c - 1)) % 8 < 8 := Nat.mod_lt _ (by decide)
    have hst := hA.2.2 (c - 1) (by omega)
    have hsB := hB (c - 1) (by omega)
    rw [if_neg hcn, if_neg hel]
    have e6 : ∃ z, fX1_takeLatest (q6_history o) = some ((d + (c - 1)) % 8, s1_count (q6_history o) (nI (c - 1))) ∧ fX6_replaceNow ((q6_text o), ((q1_ring (q6_history o)), (q1_oldest (q6_history o)), nI (c - 1)), (q6_lattice o), (q6_graph o), (q6_matching o), (q6_now o), (q6_saved o), (q6_next o), (q6_hasSaved o)) (q1_ring (q6_history o) ((d + (c - 1)) % 8)) = some z ∧ IncR (H (c - 1)).1 (H (c - 1)).2.1 (H (c - 1)).2.2 (q6_now z) ∧ LatR (H (c - 1)).1 (H (c - 1)).2.1 (H (c - 1)).2.2 (q6_lattice z) := by
      obtain ⟨z, z1, z2, z3⟩ := eX6_replaceNow (o := ((q6_text o), ((q1_ring (q6_history o)), (q1_oldest (q6_history o)), nI (c - 1)), (q6_lattice o), (q6_graph o), (q6_matching o), (q6_now o), (q6_saved o), (q6_next o), (q6_hasSaved o))) hst.1 hst.2
      refine ⟨z, ?_, z1, z2, z3⟩
      unfold fX1_takeLatest fX1_takeLatest_J17
      rw [if_neg hcl, hc1, hA.2.1, nI_add, i8, p_rem (by omega) (by decide), ck_t (p_ok hlt (by decide)), p_ix (by omega)]
    obtain ⟨z, t1, t2, t3, t4⟩ := e6
    rw [bd_s t1, ck_t (show okN ((d + (c - 1)) % 8) = true from decide_eq_true hlt)]
    dsimp only
    rw [show (fX6_replaceNow ((q6_text o), ((q1_ring (q6_history o)), (q1_oldest (q6_history o)), (q1_count (s1_count (q6_history o) (nI (c - 1))))), (q6_lattice o), (q6_graph o), (q6_matching o), (q6_now o), (q6_saved o), (q6_next o), (q6_hasSaved o)) (q1_ring (q6_history o) ((d + (c - 1)) % 8))) = some z from t2, Option.bind_some]
    have h12 : ∀ k : Nat, (12 : Int32) * nI (c - 1) + nI k = nI (12 * (c - 1) + k) := fun k => by
      rw [show (12 : Int32) = nI 12 from rfl, p_mul, nI_add]
    refine sk_lp (lp_inv (fun k v => v.1 = nI k ∧ ∀ j, j < k → v.2 j = q7_history r (12 * (c - 1) + j)) _ 12 ⟨rfl, fun j hj => absurd hj (Nat.not_lt_zero j)⟩ (fun k v hk hI => Or.inl ?_) (fun v hI => ?_) (lpN_gt (by omega)))
    · obtain ⟨vk, T⟩ := v
      obtain ⟨h1, h2⟩ := hI
      dsimp only at h1 h2
      subst h1
      unfold fX7_undo_L44
      dsimp only
      rw [if_neg (show ¬ (12 : Int32) ≤ nI k from nI_ge (b := 12) hk (by omega)), he1, h12, ck_t (p_ok (by omega) (by decide)), ck_t (p_ok (by omega) (by decide)), p_ix (by omega), p_ix (by omega), p_s1]
      refine ⟨_, rfl, rfl, fun j hj => ?_⟩
      show upd T k _ j = _
      by_cases q : j = k
      · rw [q, upd_at]
      · rw [upd_ne _ _ q]; exact h2 j (by omega)
    · obtain ⟨vk, T⟩ := v
      obtain ⟨h1, h2⟩ := hI
      dsimp only at h1 h2
      subst h1
      unfold fX7_undo_L44
      dsimp only
      rw [if_pos (show (12 : Int32) ≤ nI 12 from nI_le (a := 12) (Nat.le_refl 12) (by omega)), he1]
      refine ⟨_, rfl, sk_ir, rfl, sk_vr rfl, _, _, _, hst.1, t3, t4, NowR.cg hst.1.2.2.1 hsB (fun k hk => h2 k hk), Or.inl rfl, HiR_of (c := c - 1) (d := d) (H := H) (by omega) hd ⟨rfl, hA.2.1, fun i hi => hA.2.2 i (by omega)⟩ (fun i hi => hB i (by omega)) rfl, hS, hT⟩
theorem sk_15 (h : Rel o r) : SK_15 Rel o r := by
  obtain ⟨n, m, F, hv, hi, hl, hN, hL, hH, hS, hT⟩ := h
  obtain ⟨z, z1, z2⟩ := eX2_copyFrom (q6_saved o) hi hv.2.2.1
  unfold SK_15 fX6_save fX7_save
  rw [bd_s z1]
  refine sk_lp (lp_inv (fun k v => v.1 = nI k ∧ ∀ j, j < k → v.2 j = q7_now r j) _ 12 ⟨rfl, fun j hj => absurd hj (Nat.not_lt_zero j)⟩ (fun k v hk hI => Or.inl ?_) (fun v hI => ?_) (lpN_gt (by omega)))
  · obtain ⟨vk, T⟩ := v
    obtain ⟨h1, h2⟩ := hI
    dsimp only at h1 h2
    subst h1
    unfold fX7_save_L7
    dsimp only
    rw [if_neg (show ¬ (12 : Int32) ≤ nI k from nI_ge (b := 12) hk (by omega)), ck_t (p_ok (by omega) (by decide)), ck_t (p_ok (by omega) (by decide)), p_ix (by omega), p_s1]
    refine ⟨_, rfl, rfl, fun j hj => ?_⟩
    show upd T k _ j = _
    by_cases q : j = k
    · rw [q, upd_at]
    · rw [upd_ne _ _ q]; exact h2 j (by omega)
  · obtain ⟨vk, T⟩ := v
    obtain ⟨h1, h2⟩ := hI
    dsimp only at h1 h2
    subst h1
    unfold fX7_save_L7
    dsimp only
    rw [if_pos (show (12 : Int32) ≤ nI 12 from nI_le (a := 12) (Nat.le_refl 12) (by omega))]
    exact ⟨_, rfl, hi.1.trans hN.n.symm, n, m, F, hv, hi, hl, hN, hL, hH, ⟨rfl, Or.inr ⟨rfl, n, m, F, hv, z2, NowR.cg hv.2.2.1 hN h2⟩⟩, hT⟩
theorem sk_16 (h : Rel o r) : SK_16 Rel o r := by
  obtain ⟨n, m, F, hv, hi, hl, hN, hL, hH, hS, hT⟩ := h
  obtain ⟨c, d, H, hc, hd, hA, hB, hE⟩ := HiR_to hH
  obtain ⟨s1, s2⟩ := id hS
  unfold SK_16 fX6_restore fX7_restore
  rw [← s1]
  rcases s2 with s2 | ⟨s2, n', m', F', hv', hi', hN'⟩
  · rw [s2, if_pos rfl, eX7_fails_0, Option.bind_some]
    exact ⟨(.inl 0, _), _, rfl, if_neg n10, sk_il rfl, hc_0.symm, sk_vl, n, m, F, hv, hi, hl, hN, hL, hH, hS, hT⟩
  · obtain ⟨z, t1, t2, t3⟩ := eX6_replaceNow (o := ((q6_text o), ((q1_ring (q6_history o)), (q1_oldest (q6_history o)), 0), (q6_lattice o), (q6_graph o), (q6_matching o), (q6_now o), (q6_saved o), (q6_next o), (1 : Int32))) hv' hi'
    rw [s2, if_neg n10, bd_s t1, eX7_fails_1, Option.bind_some, if_pos (show ((0 : Int32), s7_thrown r 0).1 = 0 from rfl)]
    refine sk_lp (lp_inv (fun k v => v.1 = nI k ∧ ∀ j, j < k → v.2 j = q7_saved r j) _ 12 ⟨rfl, fun j hj => absurd hj (Nat.not_lt_zero j)⟩ (fun k v hk hI => Or.inl ?_) (fun v hI => ?_) (lpN_gt (by omega)))
    · obtain ⟨vk, T⟩ := v
      obtain ⟨h1, h2⟩ := hI
      dsimp only at h1 h2
      subst h1
      unfold fX7_restore_L21
      dsimp only
      rw [if_neg (show ¬ (12 : Int32) ≤ nI k from nI_ge (b := 12) hk (by omega)), ck_t (p_ok (by omega) (by decide)), ck_t (p_ok (by omega) (by decide)), p_ix (by omega), p_s1]
      refine ⟨_, rfl, rfl, fun j hj => ?_⟩
      show upd T k _ j = _
      by_cases q : j = k
      · rw [q, upd_at]
      · rw [upd_ne _ _ q]; exact h2 j (by omega)
    · obtain ⟨vk, T⟩ := v
      obtain ⟨h1, h2⟩ := hI
      dsimp only at h1 h2
      subst h1
      have hN2 : NowR n' m' F' T := NowR.cg hv'.2.2.1 hN' h2
      unfold fX7_restore_L21
      dsimp only
      rw [if_pos (show (12 : Int32) ≤ nI 12 from nI_le (a := 12) (Nat.le_refl 12) (by omega))]
      exact ⟨_, rfl, sk_ir, rfl, sk_vr (hN2.n.trans t2.1.symm), n', m', F', hv', t2, t3, hN2, Or.inl rfl, HiR_of (c := 0) (d := d) (H := H) (by omega) hd ⟨rfl, hA.2.1, fun i hi => absurd hi (Nat.not_lt_zero i)⟩ (fun i hi => absurd hi (Nat.not_lt_zero i)) rfl, hS, hT⟩
end SC

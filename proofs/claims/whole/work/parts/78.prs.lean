/-! the whole text, read on both sides; errorPosition and load -/
section PRS
variable {L : Nat} {B : Nat → Nat}
theorem kd_3 (b : Nat) : kd b = 3 ↔ b = 59 := by
  unfold kd
  split
  · omega
  · split
    · omega
    · split <;> omega
theorem TkP.k34 {k s e : Nat} (h : TkP L B k s e) (hk : k = 3 ∨ k = 4) : s < L ∧ e = s + 1 ∧ (k = 3 ↔ B s = 59) := by
  obtain ⟨p, h1, h2, h3, h4⟩ := h
  rcases h4 with ⟨g1, g2, g3⟩ | ⟨g1, g2, g3, g4, g5, g6, g7⟩
  · omega
  · refine ⟨g1, g7 hk, ?_⟩
    rw [g3]
    exact kd_3 (B s)
def LdP (L : Nat) (a : Int32 × OX5 × OX2) (b : Int32 × OX7) : Prop := (∃ x, x ≤ L ∧ a.1 = nI x ∧ b.1 = nI x) ∨ (a.1 = -1 ∧ b.1 = -1 ∧ ∃ n l, 1 ≤ n ∧ n ≤ 8 ∧ List.length l ≤ 10 ∧ (∀ s, s ∈ l → s < 2 ^ n) ∧ IncL n l a.2.2 ∧ MadeL n l (q7_made b.2))
theorem parse_both {t : OX5} {o1 : OX2} {r : OX7} (hL : L ≤ 300) (hB : ∀ j, j < L → B j < 256) (ht : TB L B t) (hr : RB L B r) : ∃ a b, fX5_read t o1 = some a ∧ fX7_parse r = some b ∧ LdP L a b := by
  obtain ⟨k0, s0, e0, h0⟩ := tok_ex L B (Nat.zero_le L)
  obtain ⟨y, y1, y2⟩ := eX5_advance (t := s5_end t 0) (p := 0) hL hB ht rfl h0
  obtain ⟨x, x1, x2⟩ := eX7_step (r := s7_wrong (s7_at r 0) (-1)) (p := 0) hL hB hr rfl h0
  obtain ⟨z, w, z1, w1, hF⟩ := first_both (t := s5_end (s5_start (s5_kind t (q5_kind y)) (q5_start y)) (q5_end y)) (r := s7_wrong (s7_number (s7_kind (s7_from (s7_at r (q7_at x)) (q7_from x)) (q7_kind x)) (q7_number x)) (-1)) o1 hL hB ⟨ht, y2⟩ ⟨hr, x2, rfl⟩ ⟨0, h0⟩
  unfold fX5_read fX7_parse
  rw [bd_s y1, bd_s z1, bd_s x1, bd_s w1]
  have stop : ∀ (b : Int32 × Int32 × Int32 × Int32 × Int32 × (Nat → Int32)) (q : Nat), q < 2147483648 → b.2.2.2.2.1 = nI q → ∃ w', fX7_parse_L18 r b = some (.inr w') ∧ w'.1 = nI q := fun b q hq hb => by
    have hg : fX7_isGood (s7_made (s7_wrong (s7_number (s7_kind (s7_from (s7_at r b.1) b.2.1) b.2.2.1) b.2.2.2.1) b.2.2.2.2.1) b.2.2.2.2.2) = some 0 := good_0 hq hb
    unfold fX7_parse_L18 fX7_parse_J58
    rw [bd_s hg, if_pos rfl, bd_s hg, if_pos rfl]
    exact ⟨_, rfl, hb⟩
  rcases hF with ⟨f1, q, q1, q2, q3⟩ | ⟨f1, k, s, e, n, l, f2, f3, f4, f5, f6, f7, f8, f9, f10, f11, f12⟩
  · obtain ⟨w', v1, v2⟩ := stop (q7_at w, q7_from w, q7_kind w, q7_number w, q7_wrong w, q7_made w) q (by omega) q3
    rw [if_pos f1]
    exact ⟨_, w', rfl, lp_ed 99999 v1, Or.inl ⟨q, q1, q2, v2⟩⟩
  · have hz0 : ¬ z.1 = 0 := by rw [f1]; exact n10
    rw [if_neg hz0, f3.1, f3.2.1, f3.2.2, f4.1, f4.2.1, f4.2.2.1, f5]
    refine lp_two (fun j a b => ∃ (k s e : Nat) (l : List Nat) (vf : Int32) (vs : Nat → Int32) (num : Int32) (mk : Nat → Int32), a = (nI j, nI k, nI s, nI e, vf, vs) ∧ b = (nI e, nI s, nI (rkd k), num, -1, mk) ∧ TkP L B k s e ∧ j ≤ s ∧ (k = 2 → e - s ≤ 4 → num = nI (dv B s (e - s))) ∧ l.length ≤ 10 ∧ (∀ a, a ∈ l → a < 2 ^ n) ∧ IncL n l (s2_facets (s2_sets z.2.2 vs) vf) ∧ MadeL n l mk) (LdP L) 301 (fun j a b hj hI => ?_) (fun a b hI => ?_) 301 0 _ _ lpN lpN rfl (by decide) (by decide) ?_
    · obtain ⟨k1, s1, e1, l1, vf, vs, num, mk, rfl, rfl, i1, i2, i3, i4, i5, i6, i7⟩ := hI
      obtain ⟨m1, m2, m3⟩ := i1.le
      have hgood : fX7_isGood (s7_made (s7_wrong (s7_number (s7_kind (s7_from (s7_at r (nI e1)) (nI s1)) (nI (rkd k1))) num) (-1)) mk) = some 1 := good_1 rfl
      by_cases c3 : k1 = 3
      · obtain ⟨d1, d2, d3⟩ := i1.k34 (Or.inl c3)
        have hB59 := d3.mp c3
        obtain ⟨k2, s2, e2, h2⟩ := tok_ex L B m2
        have hk2 : TkP L B k2 s2 e2 := ⟨e1, h2⟩
        obtain ⟨p, p1, p2⟩ := eX5_advance (t := s5_end (s5_start (s5_kind t (nI k1)) (nI s1)) (nI e1)) hL hB ht rfl h2
        obtain ⟨q, q1, q2⟩ := eX7_step (r := s7_made (s7_wrong (s7_number (s7_kind (s7_from (s7_at r (nI e1)) (nI s1)) (nI (rkd k1))) num) (-1)) mk) hL hB hr rfl h2
        obtain ⟨g, g', g1, g2, g3⟩ := facet_both (t := s5_end (s5_start (s5_kind t (q5_kind p)) (q5_start p)) (q5_end p)) (y := s2_facets (s2_sets z.2.2 vs) vf) (r := s7_made (s7_wrong (s7_number (s7_kind (s7_from (s7_at r (q7_at q)) (q7_from q)) (q7_kind q)) (q7_number q)) (-1)) mk) hL hB ⟨ht, p2⟩ ⟨hr, q2, rfl⟩ hk2 f7 f8 i4 i5 i6 i7
        have rf : fX7_parse_L18 r (nI e1, nI s1, nI (rkd k1), num, -1, mk) = some (.inl (q7_at g', q7_from g', q7_kind g', q7_number g', q7_wrong g', q7_made g')) := by
          unfold fX7_parse_L18
          dsimp only
          rw [bd_s hgood, if_neg n10, if_pos (show nI (rkd k1) = 3 by rw [c3]; rfl), ck_t (p_ok (by omega) (by decide)), p_ix (by omega), hr.2 s1 d1, if_pos (show nI (B s1) = 59 by rw [hB59]; rfl), bd_s q1, bd_s g2]
        have cf : fX5_read_L24 t z (nI j, nI k1, nI s1, nI e1, vf, vs) = if g.1 = 0 then ex (some (q5_start g.2.1, s5_end (s5_start (s5_kind t (q5_kind g.2.1)) (q5_start g.2.1)) (q5_end g.2.1), s2_facets (s2_sets z.2.2 (q2_sets g.2.2)) (q2_facets g.2.2))) else some (.inl (nI j + 1, q5_kind g.2.1, q5_start g.2.1, q5_end g.2.1, q2_facets g.2.2, q2_sets g.2.2)) := by
          unfold fX5_read_L24
          dsimp only
          rw [if_neg (show ¬ (300 : Int32) ≤ nI j from nI_ge (b := 300) (by omega) (by omega)), if_pos (show nI k1 = 3 by rw [c3]; rfl), bd_s p1, bd_s g1]
        rw [cf]
        have hh2 := h2.1
        have hl2 := hk2.le.1
        rcases g3 with ⟨t1, x0, t2, t3, t4⟩ | ⟨t1, k4, s4, e4, l4, t2, t3, t4, t5, t6, t7, t8, t9, t10⟩
        · obtain ⟨w', v1, v2⟩ := stop (q7_at g', q7_from g', q7_kind g', q7_number g', q7_wrong g', q7_made g') x0 (by omega) t4
          rw [if_pos t1]
          exact Or.inr ⟨_, w', rfl, Or.inr ⟨_, rf, v1⟩, Or.inl ⟨x0, t2, t3, v2⟩⟩
        · rw [if_neg (show ¬ g.1 = 0 by rw [t1]; exact n10), p_s1, t2.1, t2.2.1, t2.2.2]
          refine Or.inl ⟨_, _, rfl, rf, k4, s4, e4, l4, q2_facets g.2.2, q2_sets g.2.2, q7_number g', q7_made g', rfl, ?_, t5, ?_, t3.2.2.2, t7, t8, ⟨f11.1, t9.2.1, t9.2.2⟩, t10⟩
          · rw [t3.1, t3.2.1, t3.2.2.1, t4]
          · omega
      · have hnk : ¬ nI k1 = 3 := fun q => c3 ((nI_eq (b := 3) (by omega) (by decide)).mp q)
        have cJ : fX5_read_L24 t z (nI j, nI k1, nI s1, nI e1, vf, vs) = ex (fX5_read_J62 t z (nI j, nI k1, nI s1, nI e1, vf, vs)) := by
          unfold fX5_read_L24
          dsimp only
          by_cases g : j = 300
          · rw [if_pos (show (300 : Int32) ≤ nI j by rw [g]; decide)]
          · rw [if_neg (show ¬ (300 : Int32) ≤ nI j from nI_ge (b := 300) (by omega) (by omega)), if_neg hnk]
        have rJ : fX7_parse_L18 r (nI e1, nI s1, nI (rkd k1), num, -1, mk) = ex (fX7_parse_J58 r (nI e1, nI s1, nI (rkd k1), num, -1, mk)) := by
          unfold fX7_parse_L18
          dsimp only
          rw [bd_s hgood, if_neg n10]
          by_cases c4 : k1 = 4
          · obtain ⟨d1, d2, d3⟩ := i1.k34 (Or.inr c4)
            have hb1 := hB s1 d1
            have hb2 : ¬ B s1 = 59 := fun q => c3 (d3.mpr q)
            rw [if_pos (show nI (rkd k1) = 3 by rw [c4]; rfl), ck_t (p_ok (by omega) (by decide)), p_ix (by omega), hr.2 s1 d1, if_neg (show ¬ nI (B s1) = 59 from fun q => hb2 ((nI_eq (b := 59) (by omega) (by decide)).mp q))]
          · rw [if_neg (show ¬ nI (rkd k1) = 3 by rw [show rkd k1 = k1 from if_neg c4]; exact hnk)]
        rw [cJ, rJ]
        obtain ⟨r0, _, _, r3⟩ := rkd_i m3
        by_cases c0 : k1 = 0
        · unfold fX5_read_J62 fX7_parse_J58
          dsimp only
          rw [if_pos (show nI k1 = 0 by rw [c0]; rfl), bd_s hgood, if_neg n10, if_pos (show nI (rkd k1) = 0 by rw [c0]; rfl)]
          exact Or.inr ⟨_, _, rfl, Or.inl rfl, Or.inr ⟨rfl, rfl, n, l1, f7, f8, i4, i5, i6, i7⟩⟩
        · have hk0 : ¬ nI k1 = 0 := by rw [p_eq0 (by omega)]; exact c0
          have hr0 : ¬ nI (rkd k1) = 0 := by rw [p_eq0 (by omega)]; exact fun q => c0 (r3.mp q)
          have hfail : fX7_fail (s7_made (s7_wrong (s7_number (s7_kind (s7_from (s7_at r (nI e1)) (nI s1)) (nI (rkd k1))) num) (-1)) mk) = some (s7_wrong (s7_made (s7_wrong (s7_number (s7_kind (s7_from (s7_at r (nI e1)) (nI s1)) (nI (rkd k1))) num) (-1)) mk) (nI s1)) := by
            unfold fX7_fail
            exact if_neg m1_n0
          unfold fX5_read_J62 fX7_parse_J58
          dsimp only
          rw [if_neg hk0, bd_s hgood, if_neg n10, if_neg hr0, bd_s hfail]
          exact Or.inr ⟨_, _, rfl, Or.inl rfl, Or.inl ⟨s1, by omega, rfl, rfl⟩⟩
    · obtain ⟨k1, s1, e1, l1, vf, vs, num, mk, _, _, i1, i2, _⟩ := hI
      obtain ⟨m1, m2, m3⟩ := i1.le
      omega
    · exact ⟨k, s, e, l, q2_facets z.2.2, q2_sets z.2.2, q7_number w, q7_made w, rfl, rfl, f6, Nat.zero_le _, f4.2.2.2, f9, f10, ⟨f11.1, f11.2.1, f11.2.2⟩, f12⟩
variable {o : OX6} {r : OX7}
theorem sk_2 (h : Rel o r) : SK_2 Rel o r := by
  obtain ⟨n, m, F, hv, hi, hl, hN, hLd, hH, hS, hT⟩ := h
  obtain ⟨L, B, hL, t1, t2, t3⟩ := id hT
  obtain ⟨a, b, a1, b1, ab⟩ := parse_both (t := q6_text o) (o1 := q6_next o) (r := s7_thrown r 0) hL (fun j hj => (t3 j hj).2.2) ⟨t1, fun j hj => (t3 j hj).1⟩ ⟨t2, fun j hj => (t3 j hj).2.1⟩
  have e : a.1 = b.1 := by
    rcases ab with ⟨x, _, x1, x2⟩ | ⟨x1, x2, _⟩
    · rw [x1, x2]
    · rw [x1, x2]
  unfold SK_2 fX6_errorPosition fX7_errorPosition
  rw [bd_s a1, bd_s b1]
  exact ⟨_, _, rfl, rfl, e, n, m, F, hv, hi, hl, hN, hLd, hH, hS, hT⟩
theorem sk_3 (h : Rel o r) : SK_3 Rel o r := by
  obtain ⟨n, m, F, hv, hi, hl, hN, hLd, hH, hS, hT⟩ := h
  obtain ⟨c, d, H, hc, hd, hA, hB, hE⟩ := HiR_to hH
  obtain ⟨L, B, hL, t1, t2, t3⟩ := id hT
  obtain ⟨a, b, a1, b1, ab⟩ := parse_both (t := q6_text o) (o1 := q6_next o) (r := s7_thrown r 0) hL (fun j hj => (t3 j hj).2.2) ⟨t1, fun j hj => (t3 j hj).1⟩ ⟨t2, fun j hj => (t3 j hj).2.1⟩
  unfold SK_3 fX6_load fX7_load
  rw [bd_s a1, bd_s b1]
  rcases ab with ⟨x, x0, x1, x2⟩ | ⟨x1, x2, n', l, v1, v2, v3, v4, v5, v6⟩
  · rw [if_neg (show ¬ a.1 = -1 by rw [x1, p_nm1 (by omega)]; exact id), if_pos (show (0 : Int32) ≤ b.1 by rw [x2]; exact nI_pos' (by omega))]
    unfold fX7_load_J18
    rw [eX7_fails_0, Option.bind_some]
    exact ⟨(.inl 1, _), _, rfl, if_neg n10, sk_il rfl, hc_1.symm, sk_vl, n, m, F, hv, hi, hl, hN, hLd, hH, hS, hT⟩
  · have hv' := incVL v1 v2 v3 v4
    obtain ⟨z, z1, z2, z3⟩ := eX6_replaceNow (o := (((q5_bytes (q6_text o)), 0, (q5_kind a.2.1), (q5_start a.2.1), (q5_end a.2.1)), ((q1_ring (q6_history o)), (q1_oldest (q6_history o)), 0), (q6_lattice o), (q6_graph o), (q6_matching o), (q6_now o), (q6_saved o), a.2.2, 0)) hv' v5
    rw [if_pos x1, if_neg (show ¬ (0 : Int32) ≤ b.1 by rw [x2]; exact m1_n0), bd_s z1]
    unfold fX7_load_J18
    rw [eX7_fails_1, Option.bind_some]
    dsimp only
    rw [if_pos (rfl : (0 : Int32) = 0)]
    refine sk_lp (bd_ex (eX7_takeMade hv'.2.2.1 (by exact v6)) (fun y hy => ?_))
    obtain ⟨y2, y3⟩ := hy
    exact ⟨_, rfl, sk_ir, rfl, sk_vr (y2.m.trans z2.2.1.symm), n', _, _, hv', z2, z3, y2, Or.inl y3, HiR_of (c := 0) (H := H) (Nat.zero_le 8) hd ⟨rfl, hA.2.1, fun i hi => absurd hi (Nat.not_lt_zero i)⟩ (fun i hi => absurd hi (Nat.not_lt_zero i)) rfl, ⟨rfl, Or.inl rfl⟩, 0, B, Nat.zero_le _, rfl, rfl, fun k hk => absurd hk (Nat.not_lt_zero k)⟩
end PRS

/-! steps and diameters: the calls -/
section SH
variable {n m : Nat} {F : Nat → Nat}
variable {o : OX6} {r : OX7}
theorem sk_43 (h : Rel o r) (x y z : Int32) : SK_43 Rel o r x y z := by
  obtain ⟨n, m, F, hv, hi, hl, hN, hL, hH, hS, hT⟩ := h
  have h10 := ndN_10 hv (bz z)
  have h10b := p2_lt h10
  have hsy := ndA_s (n := n) (m := m) (F := F) (bz z)
  unfold SK_43 fX6_step fX7_step_ fX7_step__J28 fX7_step__J29
  rw [eX6_checkNode hv hi x (bz z), eX6_checkNode hv hi y (bz z), bd_s (eX7_isOne (o := s7_thrown r 0) hv hN x (bz z)), bd_s (eX7_isOne (o := s7_thrown r 0) hv hN y (bz z)), eX7_fails_0, eX7_fails_1, Option.bind_some, Option.bind_some]
  rcases bool_ft (okI x (ndN n m (bz z))) with hx | hx
  · rw [if_bf hx, if0_f hx]
    exact ⟨(.inl 2, _), _, rfl, if_neg n10, sk_il (Or.inl rfl), hc_23.1.symm, sk_vl, n, m, F, hv, hi, hl, hN, hL, hH, hS, hT⟩
  · rw [if_pos hx, if0_t hx]
    rcases bool_ft (okI y (ndN n m (bz z))) with hy | hy
    · rw [if_bf hy, if0_f hy]
      exact ⟨(.inl 2, _), _, rfl, if_neg n10, sk_il (Or.inl rfl), hc_23.1.symm, sk_vl, n, m, F, hv, hi, hl, hN, hL, hH, hS, hT⟩
    · obtain ⟨k, hk, rfl⟩ := okI_of hx (by omega)
      obtain ⟨l, hl2, rfl⟩ := okI_of hy (by omega)
      obtain ⟨g, g1, g2⟩ := eX6_linkGraph hv hi hl (bz z)
      obtain ⟨v, v1, v2⟩ := eX0_firstStep h10 (g := (q0_nextTo g, q0_size g)) g2 hk hl2
      obtain ⟨q, q1, q2, q3⟩ := eX7_laySteps (o := s7_thrown r 0) hv hN hL (bz z) hl2
      have okk : okI (nI k) 10 = true := p_ok (by omega) (by decide)
      rw [if_pos hy, if0_t hy, Option.bind_some, xb_r, Option.bind_some, xb_r, bd_s g1, if_pos rfl]
      dsimp only
      rw [bd_s v1, show (fX7_laySteps (s7_thrown r (q7_thrown (s7_thrown r 0))) (nI l) (bz z)) = _ from q1, Option.bind_some, ck_t okk, p_ix (by omega)]
      unfold fX7_step__J59
      rw [eX7_fails_0, eX7_fails_1, Option.bind_some, Option.bind_some]
      have hdk := q3 k hk
      by_cases hd : ∃ d, LX (ndA n m F (bz z)) (ndN n m (bz z)) k (d + 1) l
      · obtain ⟨d, hd⟩ := hd
        have hdN := lx_N hk hd
        have hs : q7_steps q k = nI (d + 1) := (dv_l hdk (by omega) h10).mpr (lx_sym hsy hk hl2 hd)
        obtain ⟨w, w1, w2⟩ := eX7_near (o := s7_steps (s7_isLaid (s7_faceMany (s7_placeOf (s7_rankOf (s7_faces (s7_closed (s7_thrown r 0) (q7_closed q)) (q7_faces q)) (q7_rankOf q)) (q7_placeOf q)) (q7_faceMany q)) (q7_isLaid q)) (q7_steps q)) hv hN q2 (bz z) hk
        have hk0 : ¬ q7_steps q k ≤ 0 := by rw [hs]; exact nI_nle (by omega) (by omega)
        rw [if_neg hk0, if_pos rfl]
        have hnb := nbs_lt (ndA n m F (bz z)) (ndN n m (bz z)) k
        have key : ∃ y, (fX7_near (s7_steps (s7_isLaid (s7_faceMany (s7_placeOf (s7_rankOf (s7_faces (s7_closed (s7_thrown r 0) (q7_closed q)) (q7_faces q)) (q7_rankOf q)) (q7_placeOf q)) (q7_faceMany q)) (q7_isLaid q)) (q7_steps q)) (nI k) (bz z)).bind (fun r14 => lp (fX7_step__L79 r (nI k) q (0, s7_steps (s7_isLaid (s7_faceMany (s7_placeOf (s7_rankOf (s7_faces (s7_closed (s7_thrown r 0) (q7_closed q)) (q7_faces q)) (q7_rankOf q)) (q7_placeOf q)) (q7_faceMany q)) (q7_isLaid q)) (q7_steps q)) r14) lpN 0) = some y ∧ FS (ndA n m F (bz z)) (ndN n m (bz z)) k l y.1 ∧ (∃ t, t < 2147483648 ∧ y.1 = nI t) ∧ q7_thrown y.2 = 0 ∧ Rel o (mh_step r y.2) := by
          rw [bd_s w1]
          refine lp_inv (fun j v => v = nI j ∧ ∀ i, i < j → ndA n m F (bz z) k i = true → ¬ LX (ndA n m F (bz z)) (ndN n m (bz z)) i d l) _ (ndN n m (bz z)) ⟨rfl, fun i hi => absurd hi (Nat.not_lt_zero i)⟩ (fun j v hj hI => ?_) (fun v hI => ?_) (lpN_gt (by omega))
          · obtain ⟨rfl, hI⟩ := hI
            unfold fX7_step__L79
            dsimp only
            rw [bd_s (eX7_has (by omega) (by omega)), tb_nbs, decide_eq_true hj, Bool.true_and, p_s1]
            have next : (ndA n m F (bz z) k j = true → ¬ LX (ndA n m F (bz z)) (ndN n m (bz z)) j d l) → ∃ s', (some (Sum.inl (nI (j + 1))) : Option (Int32 ⊕ (Int32 × OX7))) = some (.inl s') ∧ s' = nI (j + 1) ∧ ∀ i, i < j + 1 → ndA n m F (bz z) k i = true → ¬ LX (ndA n m F (bz z)) (ndN n m (bz z)) i d l := fun hx => by
              refine ⟨_, rfl, rfl, fun i hi hA => ?_⟩
              by_cases e : i = j
              · rw [e] at hA ⊢; exact hx hA
              · exact hI i (by omega) hA
            rcases bool_ft (ndA n m F (bz z) k j) with c | c
            · rw [if0_f c]
              exact Or.inl (next fun z => Bool.noConfusion (c.symm.trans z))
            · have hdj := q3 j hj
              rw [if0_t c, ck_t (p_ok (by omega) (by decide)), ck_t okk, p_ix (by omega), p_ix (by omega)]
              have e1 : q7_steps q k - 1 = nI d := by rw [hs]; exact nI_pred d
              by_cases e : q7_steps q j = nI d
              · rw [if_pos (by rw [e1]; exact e)]
                have hlx := lx_sym hsy hl2 hj ((dv_l hdj (by omega) h10).mp e)
                exact Or.inr ⟨_, rfl, Or.inl ⟨d, j, hd, hj, c, hlx, hI, rfl⟩, ⟨j, by omega, rfl⟩, rfl, n, m, F, hv, hi, hl, hN, Or.inr w2, hH, hS, hT⟩
              · rw [if_neg (by rw [e1]; exact e)]
                exact Or.inl (next fun _ z => e ((dv_l hdj (by omega) h10).mpr (lx_sym hsy hj hl2 z)))
          · obtain ⟨rfl, hI⟩ := hI
            obtain ⟨i, i1, i2, i3⟩ := lx_f hk hl2 hd
            exact absurd i3 (hI i i1 i2)
        obtain ⟨y, y1, y2, ⟨t, t1, t2⟩, y3, y4⟩ := key
        have hvy := fs_u v2 y2
        have hvm : ¬ v = -1 := by rw [hvy, t2, p_nm1 t1]; exact id
        rw [if_neg hvm]
        obtain ⟨n', m', F', a1, a2, a3, a4, a5, a6, a7, a8⟩ := y4
        exact ⟨_, y, rfl, y1, sk_ir, y3, sk_vr hvy.symm, n', m', F', a1, a2, a3, a4, a5, a6, a7, a8⟩
      · have hle : q7_steps q k ≤ 0 := by
          rcases hdk with ⟨d, d1, d2, d3⟩ | ⟨d1, d2⟩
          · match d, d1, d2, d3 with
            | 0, _, _, d3 => rw [d3]; decide
            | d + 1, _, d2, _ => exact absurd ⟨d, lx_sym hsy hl2 hk d2⟩ hd
          · rw [d1]; decide
        have hv1 : v = -1 := by
          rcases v2 with ⟨d, _, d1, _⟩ | ⟨d1, _⟩
          · exact absurd ⟨d, d1⟩ hd
          · exact d1
        rw [if_pos hle, if_pos hv1, if_neg n10]
        exact ⟨(.inl 3, _), _, rfl, rfl, sk_il (Or.inr rfl), hc_23.2.symm, sk_vl, n, m, F, hv, hi, hl, hN, q2, hH, hS, hT⟩
theorem max_m1 {M : Nat} (h : M < 2147483648) : jmax (nI M) (-1) = nI M := by
  unfold jmax
  rw [if_neg (fun z => ?_)]
  rw [Int32.lt_iff_toInt_lt, nI_toInt h] at z
  have : (-1 : Int32).toInt = -1 := by decide
  omega
/-- the reference's greatest distance on the way -/
def DmI (A : Nat → Nat → Bool) (N k : Nat) (most is : Int32) : Prop := YN is (0 < N ∧ ∀ i, i < k → ∀ j, j < N → ∃ d, LX A N i d j) ∧ ∃ M, M ≤ N ∧ most = nI M ∧ (∀ i, i < k → ∀ j d, j < N → LX A N i d j → d ≤ M) ∧ (M = 0 ∨ ∃ i j, i < N ∧ j < N ∧ LX A N i M j)
def DmJ (A : Nat → Nat → Bool) (N k t : Nat) (most is : Int32) : Prop := YN is ((0 < N ∧ ∀ i, i < k → ∀ j, j < N → ∃ d, LX A N i d j) ∧ ∀ j, j < t → ∃ d, LX A N k d j) ∧ ∃ M, M ≤ N ∧ most = nI M ∧ (∀ i, i < k → ∀ j d, j < N → LX A N i d j → d ≤ M) ∧ (∀ j d, j < t → LX A N k d j → d ≤ M) ∧ (M = 0 ∨ ∃ i j, i < N ∧ j < N ∧ LX A N i M j)
theorem eX7_dmIn {A : Nat → Nat → Bool} {N k : Nat} (hN : N ≤ 10) (hk : k < N) {q : OX7} (hq : ∀ j, j < N → DV A N k j (q7_steps q j)) {most is kk f l : Int32} {c fa rk pl st : Nat → Int32} (hkk : kk = nI k) (h : DmI A N k most is) : ∃ most' is', lp (fX7_diameter_L57 (nI N) (most, is, kk, f, l, c, fa, rk, pl, st) q) lpN (most, is, 0) = some (.inl (most', is', nI (k + 1), (q7_faceMany q), (q7_isLaid q), (q7_closed q), (q7_faces q), (q7_rankOf q), (q7_placeOf q), (q7_steps q))) ∧ DmI A N (k + 1) most' is' := by
  subst hkk
  have key : ∃ z, lp (fX7_diameter_L57 (nI N) (most, is, nI k, f, l, c, fa, rk, pl, st) q) lpN (most, is, 0) = some z ∧ ∃ most' is', z = .inl (most', is', nI (k + 1), (q7_faceMany q), (q7_isLaid q), (q7_closed q), (q7_faces q), (q7_rankOf q), (q7_placeOf q), (q7_steps q)) ∧ DmI A N (k + 1) most' is' := by
    refine lp_inv (fun t v => DmJ A N k t v.1 v.2.1 ∧ v.2.2 = nI t) _ N ⟨⟨h.1.cg ⟨fun z => ⟨z, fun j hj => absurd hj (Nat.not_lt_zero j)⟩, fun z => z.1⟩, ?_⟩, rfl⟩ (fun t v ht hI => Or.inl ?_) (fun v hI => ?_) (lpN_gt (by omega))
    · obtain ⟨_, M, m1, m2, m3, m4⟩ := h
      exact ⟨M, m1, m2, m3, fun j d hj => absurd hj (Nat.not_lt_zero j), m4⟩
    · obtain ⟨v1, v2, v3⟩ := v
      obtain ⟨⟨h1, M, m1, m2, m3, m4, m5⟩, h2⟩ := hI
      dsimp only at h1 h2 m2
      subst h2 m2
      have hok : okI (nI t) 10 = true := p_ok (by omega) (by decide)
      unfold fX7_diameter_L57 fX7_diameter_J83 fX7_diameter_J84
      dsimp only
      rw [if_neg (nI_ge ht (by omega)), ck_t hok, ck_t hok, ck_t hok, p_ix (by omega), p_s1]
      have yes : ∀ d w, LX A N k d t → YN w ((0 < N ∧ ∀ i, i < k → ∀ j, j < N → ∃ d, LX A N i d j) ∧ ∀ j, j < t + 1 → ∃ d, LX A N k d j) → DmJ A N k (t + 1) (jmax (nI M) (nI d)) w := fun d w hd hw => by
        have hdN := lx_N hk hd
        rw [p_max (by omega) (by omega)]
        refine ⟨hw, max M d, by omega, rfl, fun i hi j e hj hle => Nat.le_trans (m3 i hi j e hj hle) (Nat.le_max_left _ _), fun j e hj hle => ?_, ?_⟩
        · by_cases q : j = t
          · subst q; rw [lx_u hle hd]; exact Nat.le_max_right _ _
          · exact Nat.le_trans (m4 j e (by omega) hle) (Nat.le_max_left _ _)
        · rcases Nat.le_total M d with q | q
          · rw [Nat.max_eq_right q]; exact Or.inr ⟨k, t, hk, ht, hd⟩
          · rw [Nat.max_eq_left q]; exact m5
      have non : ∀ w, (∀ d, ¬ RE A N k d t) → YN w ((0 < N ∧ ∀ i, i < k → ∀ j, j < N → ∃ d, LX A N i d j) ∧ ∀ j, j < t + 1 → ∃ d, LX A N k d j) → DmJ A N k (t + 1) (jmax (nI M) (-1)) w := fun w hd hw => by
        rw [max_m1 (by omega)]
        refine ⟨hw, M, m1, rfl, m3, fun j e hj hle => ?_, m5⟩
        by_cases q : j = t
        · subst q; exact absurd hle.1 (hd e)
        · exact m4 j e (by omega) hle
      have hbad : ¬ ((0 < N ∧ ∀ i, i < k → ∀ j, j < N → ∃ d, LX A N i d j) ∧ ∀ j, j < t → ∃ d, LX A N k d j) → YN 0 ((0 < N ∧ ∀ i, i < k → ∀ j, j < N → ∃ d, LX A N i d j) ∧ ∀ j, j < t + 1 → ∃ d, LX A N k d j) := fun hx => Or.inr ⟨rfl, fun z => hx ⟨z.1, fun j hj => z.2 j (by omega)⟩⟩
      rcases hq t ht with ⟨d, d1, d2, d3⟩ | ⟨d1, d2⟩
      · rw [d3, if_neg (by rw [p_nm1 (by omega)]; exact id : ¬ nI d = -1)]
        rcases h1 with ⟨rfl, h1⟩ | ⟨rfl, h1⟩
        · rw [if_neg n10]
          refine ⟨_, rfl, yes d _ d2 (Or.inl ⟨rfl, h1.1, fun j hj => ?_⟩), rfl⟩
          by_cases q : j = t
          · subst q; exact ⟨d, d2⟩
          · exact h1.2 j (by omega)
        · rw [if_pos rfl]
          exact ⟨_, rfl, yes d _ d2 (hbad h1), rfl⟩
      · rw [d1, if_pos (rfl : (-1 : Int32) = -1)]
        have hb2 : YN 0 ((0 < N ∧ ∀ i, i < k → ∀ j, j < N → ∃ d, LX A N i d j) ∧ ∀ j, j < t + 1 → ∃ d, LX A N k d j) := Or.inr ⟨rfl, fun z => by
          obtain ⟨d, hd⟩ := z.2 t (by omega)
          exact d2 d hd.1⟩
        rcases h1 with ⟨rfl, h1⟩ | ⟨rfl, h1⟩
        · rw [if_neg n10]
          exact ⟨_, rfl, non _ d2 hb2, rfl⟩
        · rw [if_pos rfl]
          exact ⟨_, rfl, non _ d2 hb2, rfl⟩
    · obtain ⟨v1, v2, v3⟩ := v
      obtain ⟨⟨h1, M, m1, m2, m3, m4, m5⟩, h2⟩ := hI
      dsimp only at h1 h2 m2
      subst h2
      unfold fX7_diameter_L57
      dsimp only
      rw [if_pos (nI_le (Nat.le_refl N) (by omega)), p_s1]
      refine ⟨_, rfl, _, _, rfl, h1.cg ⟨fun z => ⟨z.1.1, fun i hi j hj => ?_⟩, fun z => ⟨⟨z.1, fun i hi => z.2 i (by omega)⟩, fun j hj => z.2 k (by omega) j hj⟩⟩, M, m1, m2, fun i hi j d hj hle => ?_, m5⟩
      · by_cases e : i = k
        · subst e; exact z.2 j hj
        · exact z.1.2 i (by omega) j hj
      · by_cases e : i = k
        · subst e; exact m4 j d hj hle
        · exact m3 i (by omega) j d hj hle
  obtain ⟨z, k1, most', is', rfl, k2⟩ := key
  exact ⟨most', is', k1, k2⟩
theorem sk_44 (h : Rel o r) (x : Int32) : SK_44 Rel o r x := by
  obtain ⟨n, m, F, hv, hi, hl, hN, hL, hH, hS, hT⟩ := h
  have h10 := ndN_10 hv (bz x)
  have hsy := ndA_s (n := n) (m := m) (F := F) (bz x)
  obtain ⟨g, g1, g2⟩ := eX6_linkGraph hv hi hl (bz x)
  obtain ⟨v, v1, v2⟩ := eX0_greatestLength h10 (g := (q0_nextTo g, q0_size g)) g2 hsy
  unfold SK_44 fX6_diameter fX7_diameter
  rw [bd_s g1, bd_s v1]
  have e0 : (if bz x = 0 then fX7_diameter_J24 r (bz x) (q7_now r (ix 0)) else fX7_diameter_J24 r (bz x) (q7_now r (ix 1))) = fX7_diameter_J36 r (bz x) (nI (ndN n m (bz x))) (if 0 < ndN n m (bz x) then 1 else 0) := by
    have e1 : ∀ N, N ≤ 10 → fX7_diameter_J24 r (bz x) (nI N) = fX7_diameter_J36 r (bz x) (nI N) (if 0 < N then 1 else 0) := fun N hN => by
      unfold fX7_diameter_J24
      rcases Nat.eq_zero_or_pos N with z | z
      · rw [if_pos (by rw [z]; decide), if_neg (by omega)]
      · rw [if_neg (nI_nle z (by omega)), if_pos z]
    unfold ndN at h10 ⊢
    by_cases e : bz x = 0
    · rw [if_pos e] at h10
      rw [if_pos e, if_pos e, hN.n, e1 n h10]
    · rw [if_neg e] at h10
      rw [if_neg e, if_neg e, hN.m, e1 m h10]
  rw [e0]
  have key : ∃ z, fX7_diameter_J36 r (bz x) (nI (ndN n m (bz x))) (if 0 < ndN n m (bz x) then 1 else 0) = some z ∧ ((∃ M, M < 2147483648 ∧ v = nI M ∧ z.1 = nI M ∧ q7_thrown z.2 = 0) ∨ (v = -1 ∧ q7_thrown z.2 = 1)) ∧ Rel o (mh_diameter r z.2) := by
    unfold fX7_diameter_J36
    refine lp_inv (fun k (w : Int32 × Int32 × Int32 × Int32 × Int32 × (Nat → Int32) × (Nat → Int32) × (Nat → Int32) × (Nat → Int32) × (Nat → Int32)) => DmI (ndA n m F (bz x)) (ndN n m (bz x)) k w.1 w.2.1 ∧ w.2.2.1 = nI k ∧ LyC n m F w.2.2.2.1 w.2.2.2.2.1 w.2.2.2.2.2.1 w.2.2.2.2.2.2.1 w.2.2.2.2.2.2.2.1 w.2.2.2.2.2.2.2.2.1) _ (ndN n m (bz x)) ?_ (fun k w hk hI => Or.inl ?_) (fun w hI => ?_) (lpN_gt (by omega))
    · refine ⟨⟨?_, 0, Nat.zero_le _, rfl, fun i hi => absurd hi (Nat.not_lt_zero i), Or.inl rfl⟩, rfl, hL⟩
      by_cases z : 0 < ndN n m (bz x)
      · exact Or.inl ⟨if_pos z, z, fun i hi => absurd hi (Nat.not_lt_zero i)⟩
      · exact Or.inr ⟨if_neg z, fun q => z q.1⟩
    · obtain ⟨most, is, kk, f1, l1, c1, fa1, r1, p1, s1⟩ := w
      obtain ⟨h1, h2, h3⟩ := hI
      dsimp only at h1 h2 h3
      obtain ⟨q, q1, q2, q3⟩ := eX7_laySteps (o := s7_steps (s7_isLaid (s7_faceMany (s7_placeOf (s7_rankOf (s7_faces (s7_closed (s7_thrown r 0) c1) fa1) r1) p1) f1) l1) s1) hv hN h3 (bz x) hk
      unfold fX7_diameter_L41
      dsimp only
      rw [if_neg (by rw [h2]; exact nI_ge hk (by omega)), h2, bd_s q1]
      obtain ⟨most', is', k1, k2⟩ := eX7_dmIn h10 hk q3 (f := f1) (l := l1) (c := c1) (fa := fa1) (rk := r1) (pl := p1) (st := s1) (kk := nI k) rfl h1
      rw [k1]
      exact ⟨_, rfl, k2, rfl, q2⟩
    · obtain ⟨most, is, kk, f1, l1, c1, fa1, r1, p1, s1⟩ := w
      obtain ⟨⟨h1, M, m1, m2, m3, m4⟩, h2, h3⟩ := hI
      dsimp only at h1 h2 h3 m2
      unfold fX7_diameter_L41
      dsimp only
      rw [if_pos (by rw [h2]; exact nI_le (Nat.le_refl _) (by omega))]
      rcases h1 with ⟨rfl, h1⟩ | ⟨rfl, h1⟩
      · rw [eX7_fails_1, Option.bind_some, if_pos rfl]
        have hgl : GL (ndA n m F (bz x)) (ndN n m (bz x)) (nI M) := by
          have hM : ∃ i j, i < ndN n m (bz x) ∧ j < ndN n m (bz x) ∧ LX (ndA n m F (bz x)) (ndN n m (bz x)) i M j := by
            rcases m4 with m4 | m4
            · rw [m4]; exact ⟨0, 0, h1.1, h1.1, lx_00 0⟩
            · exact m4
          refine Or.inr ⟨M, ?_, rfl, fun i j hi2 hj2 => ?_, hM⟩
          · obtain ⟨i, j, a, b, c⟩ := hM
            exact lx_N a c
          · obtain ⟨d, hd⟩ := h1.2 i hi2 j hj2
            exact ⟨d, m3 i hi2 j d hj2 hd, hd⟩
        exact ⟨_, rfl, Or.inl ⟨M, by omega, gl_u v2 hgl, m2, rfl⟩, n, m, F, hv, hi, hl, hN, h3, hH, hS, hT⟩
      · rw [eX7_fails_0, Option.bind_some, if_neg n10]
        have hgl : GL (ndA n m F (bz x)) (ndN n m (bz x)) (-1) := by
          refine Or.inl ⟨rfl, ?_⟩
          apply Classical.byContradiction
          intro z
          refine h1 ⟨Nat.pos_of_ne_zero fun q => z (Or.inl q), fun i hi2 j hj2 => ?_⟩
          apply Classical.byContradiction
          intro z2
          refine z (Or.inr ⟨i, j, hi2, hj2, fun d hd => ?_⟩)
          obtain ⟨e, _, e2⟩ := lx_ex d j hd
          exact z2 ⟨e, e2⟩
        exact ⟨_, rfl, Or.inr ⟨gl_u v2 hgl, rfl⟩, n, m, F, hv, hi, hl, hN, h3, hH, hS, hT⟩
  obtain ⟨z, z1, z2, n', m', F', a1, a2, a3, a4, a5, a6, a7, a8⟩ := key
  rcases z2 with ⟨M, M1, rfl, M2, M3⟩ | ⟨rfl, M3⟩
  · rw [if_neg (by rw [p_nm1 M1]; exact id)]
    exact ⟨_, z, rfl, z1, sk_ir, M3, sk_vr M2, n', m', F', a1, a2, a3, a4, a5, a6, a7, a8⟩
  · rw [if_pos rfl]
    exact ⟨_, z, rfl, z1, sk_il rfl, M3.trans hc_3.symm, sk_vl, n', m', F', a1, a2, a3, a4, a5, a6, a7, a8⟩
end SH

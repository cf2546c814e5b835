/-! Eulerian, simplicial, simple: the calls -/
section EL
variable {n m : Nat} {F : Nat → Nat}
theorem eX3_tallyAlternates {x : OX3} (hn : n ≤ 8) (h1 : q3_all x = nI (2 ^ n - 1)) (hc : ClM n m F (q3_closed x)) (hr : RR n m F (q3_ranks x) (rk n m F)) {a : Nat} (ha : Fc n m F a) (hT : ∀ t, Fc n m F t → Sb a t → q3_tally x t = mu n m F a t) : ∃ v, fX3_tallyAlternates x (nI a) = some v ∧ YN v (MA n m F a) := by
  have h8 := p2_256 hn
  have hp := p2_pos n
  have ha1 := ha.1
  have hS : Sb a (2 ^ n - 1) := sb_all.mpr ha1
  have hu : 2 ^ n - 1 < 2 ^ n := by omega
  have hg : dif (2 ^ n - 1) a < 256 := dif_lt (by omega)
  have hpc := pc_256 (dif (2 ^ n - 1) a)
  unfold fX3_tallyAlternates
  rw [h1, p_dif, bd_s (eX3_partsOf hg)]
  refine lp_inv (fun k v => v = (nI (sub (dif (2 ^ n - 1) a) k), nI k) ∧ ∀ j, j < k → Fc n m F (a ||| sub (dif (2 ^ n - 1) a) j) → mu n m F a (a ||| sub (dif (2 ^ n - 1) a) j) = sgn (rk n m F (a ||| sub (dif (2 ^ n - 1) a) j) - rk n m F a)) _ (2 ^ pc (dif (2 ^ n - 1) a)) ⟨rfl, fun j hj => absurd hj (Nat.not_lt_zero j)⟩ (fun k v hk hI => ?_) (fun v hI => ?_) (lpN_gt (by omega))
  · obtain ⟨rfl, hI⟩ := hI
    have hs := sub_sb hg hk
    have hsu := or_sb hS hs
    have ht := sb_lt hsu hu
    unfold fX3_tallyAlternates_L20
    dsimp only
    rw [if_neg (nI_ge hk (by omega)), p_or, bd_s (eX3_isFace hn hc ht)]
    unfold fX3_tallyAlternates_J70
    rw [h1, p_dif, bd_s (eX3_partAfter hg hk), p_s1]
    have next : (Fc n m F (a ||| sub (dif (2 ^ n - 1) a) k) → mu n m F a (a ||| sub (dif (2 ^ n - 1) a) k) = sgn (rk n m F (a ||| sub (dif (2 ^ n - 1) a) k) - rk n m F a)) → ∃ s', (some (Sum.inl (nI (sub (dif (2 ^ n - 1) a) (k + 1)), nI (k + 1))) : Option ((Int32 × Int32) ⊕ Int32)) = some (.inl s') ∧ s' = (nI (sub (dif (2 ^ n - 1) a) (k + 1)), nI (k + 1)) ∧ ∀ j, j < k + 1 → Fc n m F (a ||| sub (dif (2 ^ n - 1) a) j) → mu n m F a (a ||| sub (dif (2 ^ n - 1) a) j) = sgn (rk n m F (a ||| sub (dif (2 ^ n - 1) a) j) - rk n m F a) := fun hx => by
      refine ⟨_, rfl, rfl, fun j hj fj => ?_⟩
      by_cases e : j = k
      · rw [e] at fj ⊢; exact hx fj
      · exact hI j (by omega) fj
    by_cases ft : Fc n m F (a ||| sub (dif (2 ^ n - 1) a) k)
    · have hsa := sb_orl a (sub (dif (2 ^ n - 1) a) k)
      have b1 := rk_8 hn ft
      have b2 := rk_8 hn ha
      have b3 := rk_le ft ha hsa
      rw [if0_t ((fcB_t ht).mpr ft), ck_t (p_ok (by omega) (by decide)), ck_t (p_ok (by omega) (by decide)), ck_t (p_ok (by omega) (by decide)), p_ix (by omega), p_ix (by omega), hr _ ft, hr _ ha, p_sub b3, bd_s (eX3_signOf (by omega)), hT _ ft hsa]
      by_cases e : mu n m F a (a ||| sub (dif (2 ^ n - 1) a) k) = sgn (rk n m F (a ||| sub (dif (2 ^ n - 1) a) k) - rk n m F a)
      · rw [if_pos e]
        exact Or.inl (next fun _ => e)
      · rw [if_neg e]
        exact Or.inr ⟨_, rfl, Or.inr ⟨rfl, fun z => e (z _ ft hsa)⟩⟩
    · rw [if0_f (fcB_f ht ft)]
      exact Or.inl (next fun z => absurd z ft)
  · obtain ⟨rfl, hI⟩ := hI
    unfold fX3_tallyAlternates_L20
    dsimp only
    rw [if_pos (nI_le (Nat.le_refl _) (by omega))]
    refine ⟨_, rfl, Or.inl ⟨rfl, fun t ft hat => ?_⟩⟩
    obtain ⟨j, b1, b2⟩ := sub_ex hg (dif_sb (lo := a) (sb_all.mpr ft.1))
    have e : a ||| sub (dif (2 ^ n - 1) a) j = t := by rw [b2, or_dif hat]
    have := hI j b1 (by rw [e]; exact ft)
    rw [e] at this
    exact this
theorem eX3_mobiusAlternates {x : OX3} (hn : n ≤ 8) (h : LatR n m F x) : ∃ z, fX3_mobiusAlternates x = some z ∧ YN z.1 (∀ a, Fc n m F a → MA n m F a) := by
  have h8 := p2_256 hn
  have hp := p2_pos n
  have hnf := nf_256 (m := m) (F := F) hn
  unfold fX3_mobiusAlternates
  refine lp_inv (fun c v => v.1 = nI c ∧ ∀ j, j < c → MA n m F (fa n m F j)) _ (nf n m F) ⟨rfl, fun j hj => absurd hj (Nat.not_lt_zero j)⟩ (fun c v hc hI => ?_) (fun v hI => ?_) (lpN_gt (by omega))
  · obtain ⟨vc, T⟩ := v
    obtain ⟨h1, h2⟩ := hI
    dsimp only at h1 h2
    subst h1
    have hoc : okI (nI c) 256 = true := p_ok (by omega) (by decide)
    have hf := fa_fc (m := m) (F := F) hn hc
    obtain ⟨T2, t1, t2⟩ := eX3_tallyMobius (x := s3_tally x T) hn h.cl hf.1 (fc_all (m := m) (F := F)).1 (sb_all.mpr hf.1)
    obtain ⟨v, v1, v2⟩ := eX3_tallyAlternates (x := s3_tally x T2) hn h.1.2.1 h.cl h.2.1 hf (fun t ft hat => (t2 t hat (sb_all.mpr ft.1)).trans (rota hn fc_all t t (Nat.le_refl t) ft hat (sb_all.mpr ft.1)))
    unfold fX3_mobiusAlternates_L2
    dsimp only
    rw [h.sz, if_neg (nI_ge hc (by omega)), ck_t hoc, h.2.2.1.f hc hnf, h.1.2.1, bd_s t1, ck_t hoc, bd_s v1, p_s1]
    rcases v2 with ⟨rfl, v2⟩ | ⟨rfl, v2⟩
    · rw [if_neg n10]
      refine Or.inl ⟨_, rfl, rfl, fun j hj => ?_⟩
      by_cases e : j = c
      · rw [e]; exact v2
      · exact h2 j (by omega)
    · rw [if_pos rfl]
      exact Or.inr ⟨_, rfl, Or.inr ⟨rfl, fun z => v2 (z _ hf)⟩⟩
  · obtain ⟨vc, T⟩ := v
    obtain ⟨h1, h2⟩ := hI
    dsimp only at h1 h2
    subst h1
    unfold fX3_mobiusAlternates_L2
    dsimp only
    rw [h.sz, if_pos (nI_le (Nat.le_refl _) (by omega))]
    refine ⟨_, rfl, Or.inl ⟨rfl, fun a ha => ?_⟩⟩
    have := h2 _ (ni_lt hn ha)
    rw [fa_ni hn ha] at this
    exact this
variable {o : OX6} {r : OX7}
theorem sk_37 (h : Rel o r) : SK_37 Rel o r := by
  obtain ⟨n, m, F, hv, hi, hl, hN, hL, hH, hS, hT⟩ := h
  have hn := hv.2.1
  have h8 := p2_256 hn
  have hnf := nf_256 (m := m) (F := F) hn
  obtain ⟨v, e6, y6⟩ := eX3_graded hn hl
  obtain ⟨⟨z1, q⟩, e7, y7, hq⟩ := eX7_isGradedNow (o := s7_thrown r 0) hv hN hL
  dsimp only at y7 hq
  have hfm : q7_faceMany q = nI (nf n m F) := hq.2.2.2.1
  have hvz : v = z1 := y6.eq y7
  subst hvz
  unfold SK_37 fX6_isEulerian fX7_isEulerian
  rw [bd_s e6, bd_s e7]
  dsimp only
  rcases y6 with ⟨rfl, y6⟩ | ⟨rfl, y6⟩
  · obtain ⟨⟨w, x2⟩, m1, m2⟩ := eX3_mobiusAlternates hn hl
    dsimp only at m2
    rw [if_neg n10, if_neg n10, bd_s m1]
    have c7 : ∃ z, lp (fX7_isEulerian_L16 r (1, q)) lpN (0, q7_counted r) = some z ∧ YN z.1 (∀ a, Fc n m F a → MA n m F a) ∧ Rel o (mh_isEulerian r z.2) := by
      refine lp_inv (fun f v => v.1 = nI f ∧ ∀ j, j < f → MA n m F (fa n m F j)) _ (nf n m F) ⟨rfl, fun j hj => absurd hj (Nat.not_lt_zero j)⟩ (fun f v hf hI => ?_) (fun v hI => ?_) (lpN_gt (by omega))
      · obtain ⟨vf, c0⟩ := v
        obtain ⟨h1, h2⟩ := hI
        dsimp only at h1 h2
        subst h1
        have ff := fa_fc (m := m) (F := F) hn hf
        obtain ⟨c, k1, k2⟩ := eX7_layMobius (o := s7_counted (s7_isLaid (s7_faceMany (s7_placeOf (s7_rankOf (s7_faces (s7_closed (s7_thrown r 0) (q7_closed q)) (q7_faces q)) (q7_rankOf q)) (q7_placeOf q)) (q7_faceMany q)) (q7_isLaid q)) c0) hn hq.2 hf
        unfold fX7_isEulerian_L16
        dsimp only
        rw [if_neg (by rw [hfm]; exact nI_ge hf (by omega)), bd_s k1]
        generalize hR : s7_counted (s7_counted (s7_isLaid (s7_faceMany (s7_placeOf (s7_rankOf (s7_faces (s7_closed (s7_thrown r 0) (q7_closed q)) (q7_faces q)) (q7_rankOf q)) (q7_placeOf q)) (q7_faceMany q)) (q7_isLaid q)) c0) c = R7
        have hRc : q7_counted R7 = c := by rw [← hR]
        have key : ∃ z, lp (fX7_isEulerian_L31 r (1, q) (nI f, c0) R7) lpN 0 = some z ∧ ((z = .inl (nI (f + 1), c) ∧ MA n m F (fa n m F f)) ∨ (∃ y, z = .inr y ∧ YN y.1 (∀ a, Fc n m F a → MA n m F a) ∧ Rel o (mh_isEulerian r y.2))) := by
          refine lp_inv (fun g v => v = nI g ∧ ∀ j, j < g → Sb (fa n m F f) (fa n m F j) → mu n m F (fa n m F f) (fa n m F j) = sgn (rk n m F (fa n m F j) - rk n m F (fa n m F f))) _ (nf n m F) ⟨rfl, fun j hj => absurd hj (Nat.not_lt_zero j)⟩ (fun g v hg hI => ?_) (fun v hI => ?_) (lpN_gt (by omega))
          · obtain ⟨rfl, hI⟩ := hI
            have fg := fa_fc (m := m) (F := F) hn hg
            have b1 := rk_8 hn fg
            have b2 := rk_8 hn ff
            unfold fX7_isEulerian_L31
            dsimp only
            rw [if_neg (by rw [hfm]; exact nI_ge hg (by omega)), bd_s (eX7_isIn hn ?hlaid hf hg), hRc, p_s1]
            case hlaid => exact hq.2
            have next : (Sb (fa n m F f) (fa n m F g) → mu n m F (fa n m F f) (fa n m F g) = sgn (rk n m F (fa n m F g) - rk n m F (fa n m F f))) → ∃ s', (some (Sum.inl (nI (g + 1))) : Option (Int32 ⊕ ((Int32 × (Nat → Int32)) ⊕ (Int32 × OX7)))) = some (.inl s') ∧ s' = nI (g + 1) ∧ ∀ j, j < g + 1 → Sb (fa n m F f) (fa n m F j) → mu n m F (fa n m F f) (fa n m F j) = sgn (rk n m F (fa n m F j) - rk n m F (fa n m F f)) := fun hx => by
              refine ⟨_, rfl, rfl, fun j hj sj => ?_⟩
              by_cases e : j = g
              · rw [e] at sj ⊢; exact hx sj
              · exact hI j (by omega) sj
            by_cases gs : Sb (fa n m F f) (fa n m F g)
            · have b3 := rk_le fg ff gs
              have hcg : c (ix (nI g)) = mu n m F (fa n m F f) (fa n m F g) := by rw [p_ix (by omega)]; exact k2 g hg gs
              rw [if0_t (sbB_t.mpr gs), ck_t (p_ok (by omega) (by decide)), bd_s (eX7_rankAt hn ?hlaid2 hg), bd_s (eX7_rankAt hn ?hlaid3 hf), p_sub b3, sg_if (by omega), hcg]
              case hlaid2 => exact hq.2
              case hlaid3 => exact hq.2
              have no : mu n m F (fa n m F f) (fa n m F g) ≠ sgn (rk n m F (fa n m F g) - rk n m F (fa n m F f)) → YN 0 (∀ a, Fc n m F a → MA n m F a) := fun hx => Or.inr ⟨rfl, fun z => hx (z _ ff _ fg gs)⟩
              have hs : sgn (rk n m F (fa n m F g) - rk n m F (fa n m F f)) = if (rk n m F (fa n m F g) - rk n m F (fa n m F f)) % 2 = 0 then 1 else -1 := rfl
              by_cases d : (rk n m F (fa n m F g) - rk n m F (fa n m F f)) % 2 = 0
              · rw [if_pos d] at hs ⊢
                rw [hs] at next no
                by_cases e : mu n m F (fa n m F f) (fa n m F g) = 1
                · rw [if_pos e]; exact Or.inl (next fun _ => e)
                · rw [if_neg e]
                  exact Or.inr ⟨_, rfl, Or.inr ⟨_, rfl, no e, n, m, F, hv, hi, hl, hN, Or.inr hq, hH, hS, hT⟩⟩
              · rw [if_neg d] at hs ⊢
                rw [hs] at next no
                by_cases e : mu n m F (fa n m F f) (fa n m F g) = -1
                · rw [if_pos e]; exact Or.inl (next fun _ => e)
                · rw [if_neg e]
                  exact Or.inr ⟨_, rfl, Or.inr ⟨_, rfl, no e, n, m, F, hv, hi, hl, hN, Or.inr hq, hH, hS, hT⟩⟩
            · rw [if0_f (sbB_f gs)]
              exact Or.inl (next fun z => absurd z gs)
          · obtain ⟨rfl, hI⟩ := hI
            unfold fX7_isEulerian_L31
            dsimp only
            rw [if_pos (by rw [hfm]; exact nI_le (Nat.le_refl _) (by omega)), hRc, p_s1]
            refine ⟨_, rfl, Or.inl ⟨rfl, fun t ft hat => ?_⟩⟩
            have := hI _ (ni_lt hn ft) (by rw [fa_ni hn ft]; exact hat)
            rw [fa_ni hn ft] at this
            exact this
        obtain ⟨z, k3, k4⟩ := key
        rcases k4 with ⟨rfl, k4⟩ | ⟨y, rfl, k4⟩
        · refine Or.inl ⟨_, k3, rfl, fun j hj => ?_⟩
          by_cases e : j = f
          · rw [e]; exact k4
          · exact h2 j (by omega)
        · exact Or.inr ⟨_, k3, k4⟩
      · obtain ⟨vf, c0⟩ := v
        obtain ⟨h1, h2⟩ := hI
        dsimp only at h1 h2
        subst h1
        unfold fX7_isEulerian_L16
        dsimp only
        rw [if_pos (by rw [hfm]; exact nI_le (Nat.le_refl _) (by omega))]
        refine ⟨_, rfl, Or.inl ⟨rfl, fun a ha => ?_⟩, n, m, F, hv, hi, hl, hN, Or.inr hq, hH, hS, hT⟩
        have := h2 _ (ni_lt hn ha)
        rw [fa_ni hn ha] at this
        exact this
    obtain ⟨z, k1, k2, k3⟩ := c7
    obtain ⟨n', m', F', a1, a2, a3, a4, a5, a6, a7, a8⟩ := k3
    rcases m2 with ⟨rfl, m2⟩ | ⟨rfl, m2⟩
    · rw [if_neg n10]
      exact ⟨_, z, rfl, k1, YN.eq (Or.inl ⟨rfl, m2⟩) k2, n', m', F', a1, a2, a3, a4, a5, a6, a7, a8⟩
    · rw [if_pos rfl]
      exact ⟨_, z, rfl, k1, YN.eq (Or.inr ⟨rfl, m2⟩) k2, n', m', F', a1, a2, a3, a4, a5, a6, a7, a8⟩
  · rw [if_pos rfl, if_pos rfl]
    exact ⟨_, _, rfl, rfl, rfl, n, m, F, hv, hi, hl, hN, Or.inr hq, hH, hS, hT⟩
theorem btw_le (lo up : Nat) : btw n m F lo up ≤ nf n m F := List.countP_le_length
theorem sk_38 (h : Rel o r) : SK_38 Rel o r := by
  obtain ⟨n, m, F, hv, hi, hl, hN, hL, hH, hS, hT⟩ := h
  have hn := hv.2.1
  have h8 := p2_256 hn
  have hnf := nf_256 (m := m) (F := F) hn
  have h0 := fa_0 (m := m) (F := F) hn
  have f0 := fa_fc (m := m) (F := F) hn h0.1
  obtain ⟨q, e, hq⟩ := eX7_lay (o := s7_thrown r 0) hv hN hL
  have hfm : q7_faceMany q = nI (nf n m F) := hq.2.2.2.1
  have hfm1 : q7_faceMany q - 1 = nI (nf n m F - 1) := by rw [hfm]; exact p_sub (b := 1) h0.1
  have e6 : ∃ v, fX3_cubicBelow (q6_lattice o) = some v ∧ YN v (SP n m F) := by
    unfold fX3_cubicBelow
    refine lp_inv (fun c v => v = nI c ∧ ∀ j, j < c → btw n m F (fa n m F 0) (fa n m F j) = 2 ^ rk n m F (fa n m F j)) _ (nf n m F - 1) ⟨rfl, fun j hj => absurd hj (Nat.not_lt_zero j)⟩ (fun c v hc hI => ?_) (fun v hI => ?_) (lpN_gt (by omega))
    · obtain ⟨rfl, hI⟩ := hI
      have hc2 : c < nf n m F := by omega
      have fc := fa_fc (m := m) (F := F) hn hc2
      have fc1 := fc.1
      have b := rk_8 hn fc
      have b2 := p2_256 b
      have b3 := btw_le (n := n) (m := m) (F := F) (fa n m F 0) (fa n m F c)
      have hoc : okI (nI c) 256 = true := p_ok (by omega) (by decide)
      unfold fX3_cubicBelow_L2
      rw [hl.sz, p_s1, if_neg (nI_ge (by omega) (by omega)), ck_t hoc, hl.2.2.1.f hc2 hnf, show (0 : Int32) = nI 0 from rfl, hl.2.2.1.f h0.1 hnf, bd_s (eX3_countBetween hn hl f0.1 fc1), ck_t hoc, ck_t (p_ok (by omega) (by decide)), p_ix (by omega), hl.2.1 _ fc, p_shl1 (by omega), ifq (by omega) (by omega)]
      by_cases g : btw n m F (fa n m F 0) (fa n m F c) = 2 ^ rk n m F (fa n m F c)
      · rw [if_pos g]
        refine Or.inl ⟨_, rfl, rfl, fun j hj => ?_⟩
        by_cases e2 : j = c
        · rw [e2]; exact g
        · exact hI j (by omega)
      · rw [if_neg g]
        exact Or.inr ⟨_, rfl, Or.inr ⟨rfl, fun z => g (z c (by omega))⟩⟩
    · obtain ⟨rfl, hI⟩ := hI
      unfold fX3_cubicBelow_L2
      rw [hl.sz, p_s1, if_pos (nI_le (by omega) (by omega))]
      exact ⟨_, rfl, Or.inl ⟨rfl, fun c hc => hI c (by omega)⟩⟩
  obtain ⟨v, e6, y6⟩ := e6
  unfold SK_38 fX6_isSimplicial fX7_isSimplicial
  rw [bd_s e6, bd_s e, ck_t y6.ok]
  refine sk_lp (lp_inv (fun f w => YN w.1 (∀ j, j < f → btw n m F (fa n m F 0) (fa n m F j) = 2 ^ rk n m F (fa n m F j)) ∧ w.2 = nI f) _ (nf n m F - 1) ⟨Or.inl ⟨rfl, fun j hj => absurd hj (Nat.not_lt_zero j)⟩, rfl⟩ (fun f w hf hI => Or.inl ?_) (fun w hI => ?_) (lpN_gt (by omega)))
  · obtain ⟨w1, w2⟩ := w
    obtain ⟨h1, h2⟩ := hI
    dsimp only at h1 h2
    subst h2
    have hf2 : f < nf n m F := by omega
    have ff := fa_fc (m := m) (F := F) hn hf2
    have b := rk_8 hn ff
    have b2 := p2_256 b
    have b3 := btw_le (n := n) (m := m) (F := F) (fa n m F 0) (fa n m F f)
    unfold fX7_isSimplicial_L13
    dsimp only
    rw [if_neg (by rw [hfm1]; exact nI_ge hf (by omega)), p_s1]
    rcases h1 with ⟨rfl, h1⟩ | ⟨rfl, h1⟩
    · rw [if_neg n10, show (0 : Int32) = nI 0 from rfl, bd_s (eX7_betweenOf hn ?hlaid h0.1 hf2), bd_s (eX7_rankAt hn ?hlaid2 hf2), p_shl1 (by omega), ifq (by omega) (by omega)]
      case hlaid => exact hq.2
      case hlaid2 => exact hq.2
      by_cases g : btw n m F (fa n m F 0) (fa n m F f) = 2 ^ rk n m F (fa n m F f)
      · rw [if_pos g]
        refine ⟨_, rfl, Or.inl ⟨rfl, fun j hj => ?_⟩, rfl⟩
        by_cases e2 : j = f
        · rw [e2]; exact g
        · exact h1 j (by omega)
      · rw [if_neg g]
        exact ⟨_, rfl, Or.inr ⟨rfl, fun z => g (z f (by omega))⟩, rfl⟩
    · rw [if_pos rfl]
      exact ⟨_, rfl, Or.inr ⟨rfl, fun z => h1 fun j hj => z j (by omega)⟩, rfl⟩
  · obtain ⟨w1, w2⟩ := w
    obtain ⟨h1, h2⟩ := hI
    dsimp only at h1 h2
    subst h2
    unfold fX7_isSimplicial_L13
    dsimp only
    rw [if_pos (by rw [hfm1]; exact nI_le (Nat.le_refl _) (by omega)), ck_t h1.ok]
    exact ⟨_, rfl, y6.eq (h1.cg ⟨fun z c hc => z c (by omega), fun z j hj => z j (by omega)⟩), n, m, F, hv, hi, hl, hN, Or.inr hq, hH, hS, hT⟩
theorem sk_39 (h : Rel o r) : SK_39 Rel o r := by
  obtain ⟨n, m, F, hv, hi, hl, hN, hL, hH, hS, hT⟩ := h
  have hn := hv.2.1
  have h8 := p2_256 hn
  have hnf := nf_256 (m := m) (F := F) hn
  have h0 := fa_0 (m := m) (F := F) hn
  have hla := fa_l (m := m) (F := F) hn
  have fall : Fc n m F (2 ^ n - 1) := fc_all
  have ba := rk_8 hn fall
  obtain ⟨q, e, hq⟩ := eX7_lay (o := s7_thrown r 0) hv hN hL
  have e6 : ∃ v, fX3_cubicAbove (q6_lattice o) = some v ∧ YN v (SQ n m F) := by
    unfold fX3_cubicAbove
    refine lp_inv (fun c v => v = nI (c + 1) ∧ ∀ j, 0 < j → j < c + 1 → btw n m F (fa n m F j) (2 ^ n - 1) = 2 ^ (rk n m F (2 ^ n - 1) - rk n m F (fa n m F j))) _ (nf n m F - 1) ⟨rfl, fun j h0 hj => by omega⟩ (fun c v hc hI => ?_) (fun v hI => ?_) (lpN_gt (by omega))
    · obtain ⟨rfl, hI⟩ := hI
      have hc2 : c + 1 < nf n m F := by omega
      have fc := fa_fc (m := m) (F := F) hn hc2
      have fc1 := fc.1
      have b := rk_8 hn fc
      have bl := rk_le fall fc (sb_all.mpr fc1)
      have b2 := p2_256 (n := rk n m F (2 ^ n - 1) - rk n m F (fa n m F (c + 1))) (by omega)
      have b3 := btw_le (n := n) (m := m) (F := F) (fa n m F (c + 1)) (2 ^ n - 1)
      have hoc : okI (nI (c + 1)) 256 = true := p_ok (by omega) (by decide)
      unfold fX3_cubicAbove_L2
      rw [hl.sz, if_neg (nI_ge hc2 (by omega)), ck_t hoc, hl.2.2.1.f hc2 hnf, hl.1.2.1, bd_s (eX3_countBetween hn hl fc1 fall.1), bd_s (eX3_top hn hl), ck_t hoc, ck_t (p_ok (by omega) (by decide)), p_ix (by omega), hl.2.1 _ fc, p_sub bl, p_shl1 (by omega), ifq (by omega) (by omega), p_s1]
      by_cases g : btw n m F (fa n m F (c + 1)) (2 ^ n - 1) = 2 ^ (rk n m F (2 ^ n - 1) - rk n m F (fa n m F (c + 1)))
      · rw [if_pos g]
        refine Or.inl ⟨_, rfl, rfl, fun j hj0 hj => ?_⟩
        by_cases e2 : j = c + 1
        · rw [e2]; exact g
        · exact hI j hj0 (by omega)
      · rw [if_neg g]
        exact Or.inr ⟨_, rfl, Or.inr ⟨rfl, fun z => g (z (c + 1) (by omega) hc2)⟩⟩
    · obtain ⟨rfl, hI⟩ := hI
      unfold fX3_cubicAbove_L2
      rw [hl.sz, if_pos (nI_le (by omega) (by omega))]
      exact ⟨_, rfl, Or.inl ⟨rfl, fun c hc0 hc => hI c hc0 (by omega)⟩⟩
  obtain ⟨v, e6, y6⟩ := e6
  unfold SK_39 fX6_isSimple fX7_isSimple
  rw [bd_s e6, bd_s e, ck_t y6.ok]
  refine sk_lp (lp_inv (fun f (w : Int32 × Int32 × Int32 × Int32 × (Nat → Int32) × (Nat → Int32) × (Nat → Int32) × (Nat → Int32)) => YN w.1 (∀ j, 0 < j → j < f + 1 → btw n m F (fa n m F j) (2 ^ n - 1) = 2 ^ (rk n m F (2 ^ n - 1) - rk n m F (fa n m F j))) ∧ w.2.1 = nI (f + 1) ∧ w.2.2.2.1 = 1 ∧ LaidR n m F w.2.2.2.2.1 w.2.2.2.2.2.1 w.2.2.2.2.2.2.1 w.2.2.2.2.2.2.2 w.2.2.1) _ (nf n m F - 1) ?_ (fun f w hf hI => Or.inl ?_) (fun w hI => ?_) (lpN_gt (by omega)))
  · exact ⟨Or.inl ⟨rfl, fun j h0 hj => by omega⟩, rfl, hq.1, hq.2⟩
  · obtain ⟨w1, w2, w3, w4, w5, w6, w7, w8⟩ := w
    obtain ⟨h1, h2, h3, h4⟩ := hI
    dsimp only at h1 h2 h3 h4
    subst h2
    have hw3 : w3 = nI (nf n m F) := h4.2.2.1
    have hf2 : f + 1 < nf n m F := by omega
    have ff := fa_fc (m := m) (F := F) hn hf2
    have b := rk_8 hn ff
    have bl := rk_le fall ff (sb_all.mpr ff.1)
    have b2 := p2_256 (n := rk n m F (2 ^ n - 1) - rk n m F (fa n m F (f + 1))) (by omega)
    have b3 := btw_le (n := n) (m := m) (F := F) (fa n m F (f + 1)) (2 ^ n - 1)
    unfold fX7_isSimple_L13
    dsimp only
    rw [if_neg (by rw [hw3]; exact nI_ge hf2 (by omega)), p_s1]
    rcases h1 with ⟨rfl, h1⟩ | ⟨rfl, h1⟩
    · obtain ⟨q2, e2, hq2⟩ := eX7_heightNow (o := s7_isLaid (s7_faceMany (s7_placeOf (s7_rankOf (s7_faces (s7_closed (s7_thrown r 0) w5) w6) w7) w8) w3) w4) hv hN (Or.inr ⟨h3, h4⟩)
      have hw31 : w3 - 1 = nI (nf n m F - 1) := by rw [hw3]; exact p_sub (b := 1) h0.1
      rw [if_neg n10, hw31, bd_s (eX7_betweenOf hn ?hlaid hf2 (show nf n m F - 1 < nf n m F by omega)), bd_s e2]
      case hlaid => exact h4
      dsimp only
      rw [bd_s (eX7_rankAt hn ?hlaid2 hf2), p_sub bl, p_shl1 (by omega), hla, ifq (by omega) (by omega)]
      case hlaid2 => exact hq2.2
      by_cases g : btw n m F (fa n m F (f + 1)) (2 ^ n - 1) = 2 ^ (rk n m F (2 ^ n - 1) - rk n m F (fa n m F (f + 1)))
      · rw [if_pos g]
        refine ⟨_, rfl, Or.inl ⟨rfl, fun j hj0 hj => ?_⟩, rfl, hq2.1, hq2.2⟩
        by_cases e3 : j = f + 1
        · rw [e3]; exact g
        · exact h1 j hj0 (by omega)
      · rw [if_neg g]
        exact ⟨_, rfl, Or.inr ⟨rfl, fun z => g (z (f + 1) (by omega) (by omega))⟩, rfl, hq2.1, hq2.2⟩
    · rw [if_pos rfl]
      exact ⟨_, rfl, Or.inr ⟨rfl, fun z => h1 fun j hj0 hj => z j hj0 (by omega)⟩, rfl, h3, h4⟩
  · obtain ⟨w1, w2, w3, w4, w5, w6, w7, w8⟩ := w
    obtain ⟨h1, h2, h3, h4⟩ := hI
    dsimp only at h1 h2 h3 h4
    subst h2
    have hw3 : w3 = nI (nf n m F) := h4.2.2.1
    unfold fX7_isSimple_L13
    dsimp only
    rw [if_pos (by rw [hw3]; exact nI_le (by omega) (by omega)), ck_t h1.ok]
    exact ⟨_, rfl, y6.eq (h1.cg ⟨fun z c hc0 hc => z c hc0 (by omega), fun z j hj0 hj => z j hj0 (by omega)⟩), n, m, F, hv, hi, hl, hN, Or.inr ⟨h3, h4⟩, hH, hS, hT⟩
end EL

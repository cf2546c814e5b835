/-! chains, flags, Moebius numbers: the calls -/
section SM
variable {n m : Nat} {F : Nat → Nat}
theorem fa_0 (hn : n ≤ 8) : 0 < nf n m F ∧ fa n m F 0 = cl n m F 0 := by
  have h1 := ni_lt hn (fc_cl n m F 0)
  have h0 : 0 < nf n m F := by omega
  refine ⟨h0, ?_⟩
  have hf := fa_fc (m := m) (F := F) hn h0
  have hb := fc_bot hf
  by_cases e : ni n m F (cl n m F 0) = 0
  · have q := fa_ni hn (fc_cl n m F 0)
    rw [e] at q
    exact q
  · have h3 := fa_bf h1 (Nat.pos_of_ne_zero e)
    rw [fa_ni hn (fc_cl n m F 0)] at h3
    apply Classical.byContradiction
    intro z
    have h4 := rk_lt hf (fc_cl n m F 0) hb (fun q => z q.symm)
    rcases h3 with h3 | h3 <;> omega
theorem fa_l (hn : n ≤ 8) : fa n m F (nf n m F - 1) = 2 ^ n - 1 := by
  have h0 := (fa_0 (m := m) (F := F) hn).1
  have h1 := ni_lt (m := m) (F := F) hn fc_all
  have hl : nf n m F - 1 < nf n m F := by omega
  have hf := fa_fc (m := m) (F := F) hn hl
  have hs : Sb (fa n m F (nf n m F - 1)) (2 ^ n - 1) := sb_all.mpr hf.1
  by_cases e : ni n m F (2 ^ n - 1) = nf n m F - 1
  · rw [← e, fa_ni hn fc_all]
  · have h3 := fa_bf hl (k := ni n m F (2 ^ n - 1)) (by omega)
    rw [fa_ni hn fc_all] at h3
    apply Classical.byContradiction
    intro z
    have h4 := rk_lt fc_all hf hs z
    rcases h3 with h3 | h3 <;> omega
theorem eX7_chains0 {o : OX7} (hn : n ≤ 8) (hL : LaidR n m F (q7_closed o) (q7_faces o) (q7_rankOf o) (q7_placeOf o) (q7_faceMany o)) {l : Nat} (hl : l < nf n m F) : ∃ c, fX7_chainsOf o 0 (nI l) = some (ch n m F (fa n m F 0) (fa n m F l), s7_counted o c) := eX7_chainsOf hn hL (fa_0 hn).1 hl
variable {o : OX6} {r : OX7}
theorem sk_33 (h : Rel o r) (x y : Int32) : SK_33 Rel o r x y := by
  obtain ⟨n, m, F, hv, hi, hl, hN, hL, hH, hS, hT⟩ := h
  have hn := hv.2.1
  have h8 := p2_256 hn
  have hnf := nf_256 (m := m) (F := F) hn
  obtain ⟨q, e, hq, ht⟩ := eX7_failsFaces (o := s7_thrown r 0) hv hN hL x y
  unfold SK_33 fX6_chains fX7_chains
  rw [eX6_checkFace hv hl x, eX6_checkFace hv hl y, bd_s e]
  dsimp only
  rcases bool_ft (okI x (nf n m F)) with hx | hx
  · rw [if_bf hx] at ht ⊢
    rw [hx]
    exact ⟨(.inl 2, _), _, rfl, if_neg n10, sk_il rfl, ht.trans hc_2.symm, sk_vl, n, m, F, hv, hi, hl, hN, Or.inr hq, hH, hS, hT⟩
  · rw [if_pos hx] at ht ⊢
    rcases bool_ft (okI y (nf n m F)) with hy | hy
    · rw [if_bf hy] at ht ⊢
      rw [hx, hy]
      exact ⟨(.inl 2, _), _, rfl, if_neg n10, sk_il rfl, ht.trans hc_2.symm, sk_vl, n, m, F, hv, hi, hl, hN, Or.inr hq, hH, hS, hT⟩
    · rw [if_pos hy] at ht ⊢
      obtain ⟨k, hk, rfl⟩ := okI_of hx (by omega)
      obtain ⟨l, hl2, rfl⟩ := okI_of hy (by omega)
      have hok : okI (nI k) 256 = true := p_ok (by omega) (by decide)
      have hok2 : okI (nI l) 256 = true := p_ok (by omega) (by decide)
      obtain ⟨z, e6⟩ := eX3_countChains hn hl (fa_fc hn hk) (fa_fc hn hl2)
      obtain ⟨c, e7⟩ := eX7_chainsOf (o := s7_isLaid (s7_faceMany (s7_placeOf (s7_rankOf (s7_faces (s7_closed (s7_thrown r (q7_thrown q)) (q7_closed q)) (q7_faces q)) (q7_rankOf q)) (q7_placeOf q)) (q7_faceMany q)) (q7_isLaid q)) hn hq.2 hk hl2
      rw [hx, hy, Option.bind_some, xb_r, Option.bind_some, xb_r, if0_f (b := !(true && true)) rfl, ck_t hok, ck_t hok2, hl.2.2.1.f hk hnf, hl.2.2.1.f hl2 hnf, bd_s e6, bd_s e7]
      exact ⟨_, _, rfl, rfl, sk_ir, ht, sk_vr rfl, n, m, F, hv, hi, hl, hN, Or.inr hq, hH, hS, hT⟩
theorem sk_40 (h : Rel o r) : SK_40 Rel o r := by
  obtain ⟨n, m, F, hv, hi, hl, hN, hL, hH, hS, hT⟩ := h
  have hn := hv.2.1
  have h8 := p2_256 hn
  have hp := p2_pos n
  have hnf := nf_256 (m := m) (F := F) hn
  obtain ⟨q, e, hq⟩ := eX7_lay (o := s7_thrown r 0) hv hN hL
  have h0 := fa_0 (m := m) (F := F) hn
  have hla := fa_l (m := m) (F := F) hn
  obtain ⟨z, e6⟩ := eX3_countChains hn hl (fc_cl n m F 0) fc_all
  obtain ⟨c, e7⟩ := eX7_chains0 (o := s7_isLaid (s7_faceMany (s7_placeOf (s7_rankOf (s7_faces (s7_closed (s7_thrown r 0) (q7_closed q)) (q7_faces q)) (q7_rankOf q)) (q7_placeOf q)) (q7_faceMany q)) (q7_isLaid q)) hn hq.2 (l := nf n m F - 1) (by omega)
  have em : q7_faceMany q - 1 = nI (nf n m F - 1) := by
    rw [show q7_faceMany q = nI (nf n m F) from hq.2.2.2.1]
    exact p_sub (b := 1) h0.1
  unfold SK_40 fX6_flags fX7_flags
  rw [bd_s (eX2_allPoints hn hi.1), p_ix0, hl.cl 0 hp, bd_s e6, bd_s e, em, bd_s e7, h0.2, hla]
  exact ⟨_, _, rfl, rfl, rfl, n, m, F, hv, hi, hl, hN, Or.inr hq, hH, hS, hT⟩
theorem sk_34 (h : Rel o r) (x y : Int32) : SK_34 Rel o r x y := by
  obtain ⟨n, m, F, hv, hi, hl, hN, hL, hH, hS, hT⟩ := h
  have hn := hv.2.1
  have h8 := p2_256 hn
  have hnf := nf_256 (m := m) (F := F) hn
  obtain ⟨q, e, hq, ht⟩ := eX7_failsFaces (o := s7_thrown r 0) hv hN hL x y
  unfold SK_34 fX6_mobius fX7_mobius
  rw [eX6_checkFace hv hl x, eX6_checkFace hv hl y, bd_s e]
  dsimp only
  rcases bool_ft (okI x (nf n m F)) with hx | hx
  · rw [if_bf hx] at ht ⊢
    rw [hx]
    exact ⟨(.inl 2, _), _, rfl, if_neg n10, sk_il rfl, ht.trans hc_2.symm, sk_vl, n, m, F, hv, hi, hl, hN, Or.inr hq, hH, hS, hT⟩
  · rw [if_pos hx] at ht ⊢
    rcases bool_ft (okI y (nf n m F)) with hy | hy
    · rw [if_bf hy] at ht ⊢
      rw [hx, hy]
      exact ⟨(.inl 2, _), _, rfl, if_neg n10, sk_il rfl, ht.trans hc_2.symm, sk_vl, n, m, F, hv, hi, hl, hN, Or.inr hq, hH, hS, hT⟩
    · rw [if_pos hy] at ht ⊢
      obtain ⟨k, hk, rfl⟩ := okI_of hx (by omega)
      obtain ⟨l, hl2, rfl⟩ := okI_of hy (by omega)
      have hok : okI (nI k) 256 = true := p_ok (by omega) (by decide)
      have hok2 : okI (nI l) 256 = true := p_ok (by omega) (by decide)
      have fk := fa_fc (m := m) (F := F) hn hk
      have fl2 := fa_fc (m := m) (F := F) hn hl2
      have fk1 := fk.1
      have fl1 := fl2.1
      obtain ⟨c, e7, c7⟩ := eX7_layMobius (o := s7_isLaid (s7_faceMany (s7_placeOf (s7_rankOf (s7_faces (s7_closed (s7_thrown r (q7_thrown q)) (q7_closed q)) (q7_faces q)) (q7_rankOf q)) (q7_placeOf q)) (q7_faceMany q)) (q7_isLaid q)) hn hq.2 hk
      rw [hx, hy, Option.bind_some, xb_r, Option.bind_some, xb_r, if0_f (b := !(true && true)) rfl, ck_t hok, ck_t hok2, hl.2.2.1.f hk hnf, hl.2.2.1.f hl2 hnf, bd_s e7, bd_s (eX7_isIn hn ?hlaid hk hl2)]
      case hlaid => exact hq.2
      unfold fX3_mobiusNumber
      rw [p_dif, ifq0 (dif_lt (by omega))]
      by_cases g : Sb (fa n m F k) (fa n m F l)
      · obtain ⟨T, t1, t2⟩ := eX3_tallyMobius hn hl.cl fk.1 fl2.1 g
        have e1 : q3_tally (s3_tally (q6_lattice o) T) (ix (nI (fa n m F l))) = mu n m F (fa n m F k) (fa n m F l) := by
          rw [p_ix (by omega)]
          exact (t2 _ g (Sb.rf _)).trans (rota hn fl2 _ _ (Nat.le_refl _) fl2 g (Sb.rf _))
        have e2 : c (ix (nI l)) = mu n m F (fa n m F k) (fa n m F l) := by
          rw [p_ix (by omega)]; exact c7 l hl2 g
        rw [if_pos g.d, bd_s t1, ck_t (p_ok (by omega) (by decide)), if0_t (sbB_t.mpr g), ck_t hok2, e1]
        exact ⟨_, _, rfl, rfl, sk_ir, ht, sk_vr e2, n, m, F, hv, hi, hl, hN, Or.inr hq, hH, hS, hT⟩
      · rw [if_neg (fun z => g (Sb.of z)), if0_f (sbB_f g)]
        exact ⟨_, _, rfl, rfl, sk_ir, ht, sk_vr rfl, n, m, F, hv, hi, hl, hN, Or.inr hq, hH, hS, hT⟩
end SM

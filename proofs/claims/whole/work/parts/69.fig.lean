/-! figure: the call -/
theorem ex_in {σ τ ρ : Type} {x : Option (τ ⊕ ρ)} {I : τ → Prop} (h : ∃ t, x = some (.inl t) ∧ I t) : ∃ t, (ex x : Option (σ ⊕ (τ ⊕ ρ))) = some (.inr (.inl t)) ∧ I t := by
  obtain ⟨t, rfl, h2⟩ := h
  exact ⟨t, rfl, h2⟩
theorem lp_in {σ τ ρ : Type} {body : σ → Option (σ ⊕ (τ ⊕ ρ))} (Inv : Nat → σ → Prop) {I : τ → Prop} (N : Nat) {s0 : σ} (h0 : Inv 0 s0) (hs : ∀ k s, k < N → Inv k s → ∃ s', body s = some (.inl s') ∧ Inv (k + 1) s') (he : ∀ s, Inv N s → ∃ t, body s = some (.inr (.inl t)) ∧ I t) {fuel : Nat} (hf : N < fuel) : ∃ t, lp body fuel s0 = some (.inl t) ∧ I t := by
  have key : ∃ y, lp body fuel s0 = some y ∧ ∃ t, y = .inl t ∧ I t := lp_inv Inv (fun y => ∃ t, y = Sum.inl t ∧ I t) N h0 (fun k s hk hI => Or.inl (hs k s hk hI)) (fun s hI => by
    obtain ⟨t, t1, t2⟩ := he s hI
    exact ⟨_, t1, t, rfl, t2⟩) hf
  obtain ⟨y, y1, t, rfl, y2⟩ := key
  exact ⟨t, y1, y2⟩
section FG
variable {n m : Nat} {F : Nat → Nat}
/-- which covers of a face are within a limit, by their numbers -/
def cwp (n m : Nat) (F : Nat → Nat) (base lim j : Nat) : Nat × Nat := itn (fun c x => if cvB n m F base (fa n m F c) = true then (x.1 ||| (sbB (fa n m F c) lim).toNat <<< x.2, x.2 + 1) else x) (0, 0) j
theorem cwp_s (base lim j : Nat) : cwp n m F base lim (j + 1) = if cvB n m F base (fa n m F j) = true then ((cwp n m F base lim j).1 ||| (sbB (fa n m F j) lim).toNat <<< (cwp n m F base lim j).2, (cwp n m F base lim j).2 + 1) else cwp n m F base lim j := rfl
theorem cwp_2 (base lim j : Nat) : (cwp n m F base lim j).2 = cnt (fun i => cvB n m F base (fa n m F i)) j := by
  induction j with
  | zero => rfl
  | succ j ih =>
    rw [cwp_s, cnt_s]
    by_cases h : cvB n m F base (fa n m F j) = true
    · rw [if_pos h, if_pos h, ih]
    · rw [if_neg h, if_neg h, ih]
theorem cwp_lt (base lim j : Nat) : (cwp n m F base lim j).1 < 2 ^ (cwp n m F base lim j).2 := by
  induction j with
  | zero => exact (by decide : 0 < 2 ^ 0)
  | succ j ih =>
    rw [cwp_s]
    by_cases h : cvB n m F base (fa n m F j) = true
    · rw [if_pos h]; exact or_sh ih _
    · rw [if_neg h]; exact ih
theorem eX3_coversWithin {x : OX3} (hn : n ≤ 8) (h : LatR n m F x) {base lim : Nat} (hb : base < 2 ^ n) (hK : cnt (fun i => cvB n m F base (fa n m F i)) (nf n m F) ≤ 8) : fX3_coversWithin x (nI base) (nI lim) = some (nI (cwp n m F base lim (nf n m F)).1) := by
  have h8 := p2_256 hn
  have hnf := nf_256 (m := m) (F := F) hn
  unfold fX3_coversWithin
  refine lp_go (fun j => (nI (cwp n m F base lim j).1, nI (cwp n m F base lim j).2, nI j)) (nf n m F) (fun j hj => ?_) ?_ (lpN_gt (by omega))
  · have h2 : (cwp n m F base lim j).2 ≤ 8 := by
      rw [cwp_2]; exact Nat.le_trans (cnt_mono _ (Nat.le_of_lt hj)) hK
    have hok : okI (nI j) 256 = true := p_ok (by omega) (by decide)
    have hfj := (fa_fc (m := m) (F := F) hn hj).1
    unfold fX3_coversWithin_L8
    dsimp only
    rw [h.sz, if_neg (nI_ge hj (by omega)), ck_t hok, h.2.2.1.f hj hnf, bd_s (eX3_isCover hn h.1.1 h.cl hfj hb), ck_t hok, p_dif, ifq0 (dif_lt (by omega)), p_shl1 (by omega), p_or, p_s1, p_s1, cwp_s, shl_b]
    rcases bool_ft (cvB n m F base (fa n m F j)) with b | b
    · rw [if0_f b, if_bf b]
    · rw [if0_t b, if_pos b]
      by_cases s : Sb (fa n m F j) lim
      · rw [if_pos s.d, if_pos (sbB_t.mpr s)]
      · rw [if_neg (fun z => s (Sb.of z)), if_bf (sbB_f s), Nat.or_zero]
  · unfold fX3_coversWithin_L8
    dsimp only
    rw [h.sz, if_pos (nI_le (Nat.le_refl _) (by omega))]
    rfl
def fgL (n m : Nat) (F : Nat → Nat) (p k : Nat) : List Nat := fm (fun f => (F f).testBit p) (fun f => (cwp n m F (cl n m F (2 ^ p)) (F f) (nf n m F)).1) k
variable {o : OX6} {r : OX7}
theorem sk_12 (h : Rel o r) (x : Int32) : SK_12 Rel o r x := by
  obtain ⟨n, m, F, hv, hi, hl, hN, hL, hH, hS, hT⟩ := h
  obtain ⟨c, d, H, hc, hd, hA, hB, hE⟩ := HiR_to hH
  have hn := hv.2.1
  have h8 := p2_256 hn
  have hm := hv.2.2.1
  have hnf := nf_256 (m := m) (F := F) hn
  unfold SK_12 fX6_figure fX7_figure
  rw [eX6_checkPoint hv hi x, bd_s (eX7_isPoint (o := s7_thrown r 0) hv hN x)]
  rcases bool_ft (okI x n) with hx | hx
  · rw [if_bf hx, bd_s (eX7_fails_f _ hx 1)]
    exact ⟨(.inl 2, _), _, rfl, if_neg n10, sk_il (Or.inl rfl), hc_20.1.symm, sk_vl, n, m, F, hv, hi, hl, hN, hL, hH, hS, hT⟩
  · obtain ⟨p, hp, rfl⟩ := okI_of hx (by omega)
    have hp2 : 2 ^ p < 2 ^ n := Nat.pow_lt_pow_right (by decide) hp
    have fB := fc_cl n m F (2 ^ p)
    have hB1 := fB.1
    obtain ⟨q, e, hq⟩ := eX7_lay (o := s7_thrown r (q7_thrown (s7_thrown r 0))) hv hN hL
    have hfm : q7_faceMany q = nI (nf n m F) := hq.2.2.2.1
    have hni := ni_lt hn fB
    have hfn := fa_ni hn fB
    have okp : okI (jshl 1 (nI p)) 256 = true := by rw [p_shl1 (by omega)]; exact p_ok (by omega) (by decide)
    have hclo6 : q3_closed (q6_lattice o) (ix (jshl 1 (nI p))) = nI (cl n m F (2 ^ p)) := by rw [p_shl1 (by omega), p_ix (by omega)]; exact hl.cl _ hp2
    have hclo7 : q7_closed q (ix (jshl 1 (nI p))) = nI (cl n m F (2 ^ p)) := by rw [p_shl1 (by omega), p_ix (by omega)]; exact hq.2.1 _ hp2
    have hplace : q7_placeOf q (ix (nI (cl n m F (2 ^ p)))) = nI (ni n m F (cl n m F (2 ^ p))) := hq.2.2.2.no hn fB
    generalize hK : cnt (fun j => cvB n m F (cl n m F (2 ^ p)) (fa n m F j)) (nf n m F) = K
    have hKle : K ≤ 256 := by rw [← hK]; exact Nat.le_trans (cnt_le _ _) hnf
    have hK6 : fX3_countCovers (q6_lattice o) (nI (cl n m F (2 ^ p))) 1 = some (nI K) := by
      rw [eX3_countCovers hn hl 1 hB1, ← hK]
      rfl
    have hK7 : ∀ w : OX7, LaidR n m F (q7_closed w) (q7_faces w) (q7_rankOf w) (q7_placeOf w) (q7_faceMany w) → fX7_coverCount w (nI (ni n m F (cl n m F (2 ^ p)))) 1 = some (nI K) := fun w hw => by
      rw [eX7_coverCount hn hw 1 hni, hfn, ← hK]
      rfl
    have hin : fX7_in (nI K) 1 8 = some (nI (decide (1 ≤ K ∧ K ≤ 8)).toNat) := eX7_inab (a := 1) (b := 8) (by omega) (by decide) (by decide)
    rw [if_pos hx, Option.bind_some, xb_r, bd_s (eX7_fails_t _ hx 1), if_pos rfl, ck_t okp, hclo6, bd_s hK6]
    dsimp only
    rw [bd_s e, ck_t okp, hclo7, ck_t (p_ok (by omega) (by decide)), hplace, bd_s (hK7 _ ?hw), bd_s hin, ifq0 (by omega)]
    case hw => exact hq.2
    by_cases g : 1 ≤ K ∧ K ≤ 8
    · rw [if_neg (show ¬ K = 0 by omega), if_pos (show nI K ≤ 8 from nI_le (b := 8) g.2 (by omega)), bd_s (eX7_fails_t _ (decide_eq_true g) 2)]
      have hKd : cnt (fun i => cvB n m F (cl n m F (2 ^ p)) (fa n m F i)) (nf n m F) ≤ 8 := by rw [hK]; exact g.2
      have es : ∀ k, fgL n m F p (k + 1) = if (F k).testBit p = true then fgL n m F p k ++ [(cwp n m F (cl n m F (2 ^ p)) (F k) (nf n m F)).1] else fgL n m F p k := fun k => fm_s _ _ k
      have lG : ∀ k, k < m → (fgL n m F p k).length < 10 := fun k hk => by
        unfold fgL
        rw [fm_len]
        have := cnt_le (fun f => (F f).testBit p) k
        omega
      have hv' : IncV K (fgL n m F p m).length (fnL (fgL n m F p m)) := incVL g.1 g.2 (by
        unfold fgL
        rw [fm_len]
        exact Nat.le_trans (cnt_le _ _) hm) fun s hs => by
        obtain ⟨j, j1, _, rfl⟩ := mem_fm hs
        have := cwp_lt (n := n) (m := m) (F := F) (cl n m F (2 ^ p)) (F j) (nf n m F)
        rw [cwp_2, hK] at this
        exact this
      have c6 : ∃ res, ((fX2_clear (q6_next o) (nI K)).bind fun r10 => lp (fX6_figure_L56 o (nI p) r10) lpN (0, (q2_facets r10), (q2_sets (q6_next o)))) = some res ∧ res.1 = .inr (nI K) ∧ ClsN K (fgL n m F p m).length (fnL (fgL n m F p m)) (hcn c) (hdn c d) (hHn c H (n, m, F)) res.2 := by
        rw [show fX2_clear (q6_next o) (nI K) = some (s2_facets (s2_points (q6_next o) (nI K)) 0) from rfl, Option.bind_some]
        refine lp_inv (fun k v => v.1 = nI k ∧ IncL K (fgL n m F p k) (v.2.2, nI K, v.2.1)) _ m ?_ (fun k v hk hI => Or.inl ?_) (fun v hI => ?_) (lpN_gt (by omega))
        · exact ⟨rfl, incL_0 _ _⟩
        · obtain ⟨vk, vf, vs⟩ := v
          obtain ⟨h1, h2⟩ := hI
          dsimp only at h1 h2
          subst h1
          unfold fX6_figure_L56
          dsimp only
          rw [hi.2.1, if_neg (nI_ge hk (by omega)), bd_s (eX2_has hi hv hk (by omega)), ck_t (p_ok (by omega) (by decide)), hclo6, p_ix (by omega), hi.2.2 k hk, p_s1, es]
          rcases bool_ft ((F k).testBit p) with b | b
          · rw [if0_f b, if_bf b]
            exact ⟨_, rfl, rfl, h2⟩
          · obtain ⟨z, z1, z2⟩ := eX2_addL h2 (lG k hk) (cwp n m F (cl n m F (2 ^ p)) (F k) (nf n m F)).1
            rw [if0_t b, if_pos b, bd_s (eX3_coversWithin hn hl hB1 hKd), show q2_points (s2_facets (s2_points (q6_next o) (nI K)) 0) = nI K from rfl, bd_s z1]
            exact ⟨_, rfl, rfl, rfl, z2.2.1, z2.2.2⟩
        · obtain ⟨vk, vf, vs⟩ := v
          obtain ⟨h1, h2⟩ := hI
          dsimp only at h1 h2
          subst h1
          obtain ⟨z, c1, c2⟩ := eX6_change (o := ((q6_text o), (q6_history o), (q6_lattice o), (q6_graph o), (q6_matching o), (q6_now o), (q6_saved o), (vs, nI K, vf), (q6_hasSaved o))) hc hd hA hv hi hv' h2
          unfold fX6_figure_L56
          dsimp only
          rw [hi.2.1, if_pos (nI_le (Nat.le_refl _) (by omega)), show q2_points (s2_facets (s2_points (q6_next o) (nI K)) 0) = nI K from rfl, bd_s c1]
          exact ⟨_, rfl, congrArg Sum.inr c2.1.1, c2.up _ _ _ _ _ _ _ _⟩
      obtain ⟨⟨a1, z⟩, k1, k2, k3⟩ := c6
      dsimp only at k2 k3
      subst k2
      rw [k1]
      refine sk_lp ?_
      have fin : ∀ res2 : Int32 × OX7, q7_thrown res2.2 = 0 → res2.1 = nI K → RefN K (fgL n m F p m).length (fnL (fgL n m F p m)) (hcn c) (hHn c H (n, m, F)) res2.2 → ((∀ k, (Sum.inr (nI K) : Nat ⊕ Int32) = Sum.inl k → k = 2 ∨ k = 0) ∧ q7_thrown (mh_figure r res2.2) = hcd [2, 0] (Sum.inr (nI K)) ∧ (∀ v, (Sum.inr (nI K) : Nat ⊕ Int32) = Sum.inr v → res2.1 = v) ∧ Rel (mg_figure o z) (mh_figure r res2.2)) := fun res2 t1 t2 t3 => ⟨sk_ir, t1, sk_vr t2, Rel_of (hcn_8 hc) (hdn_8 hd) hv' k3 t3 hS hT⟩
      dsimp only
      rw [if_pos (rfl : (0 : Int32) = 0)]
      refine bd_ex (eX7_record hc (hi_V hA) (by exact hB) (by exact hE) hm (by exact hN)) (fun w hw => ?_)
      obtain ⟨w2, w3, w4⟩ := hw
      refine bd_ex (eX7_beginE _ K) (fun g' g2 => ?_)
      refine lp_inv (fun k v => v.1 = nI k ∧ MadeL K (fgL n m F p k) v.2) _ m ?_ (fun k v hk hI => Or.inl ?_) (fun v hI => ?_) (lpN_gt (by omega))
      · exact ⟨rfl, g2⟩
      · obtain ⟨vk, vg⟩ := v
        obtain ⟨h1, h2⟩ := hI
        dsimp only at h1 h2
        subst h1
        have hFk := hv.2.2.2 k hk
        unfold fX7_figure_L74
        dsimp only
        rw [hN.m, if_neg (nI_ge hk (by omega)), ck_t (ok12 (by omega)), hN.f hk hm, bd_s (eX7_has (by omega) (by omega)), p_s1, es]
        rcases bool_ft ((F k).testBit p) with b | b
        · rw [if0_f b, if_bf b]
          exact ⟨_, rfl, rfl, h2⟩
        · rw [if0_t b, if_pos b]
          refine lp_in (fun j v => v = (nI (cwp n m F (cl n m F (2 ^ p)) (F k) j).1, nI (cwp n m F (cl n m F (2 ^ p)) (F k) j).2, nI j)) (nf n m F) rfl (fun j v hj hI => ?_) (fun v hI => ?_) (lpN_gt (by omega))
          · subst hI
            have h2b : (cwp n m F (cl n m F (2 ^ p)) (F k) j).2 ≤ 8 := by
              rw [cwp_2]; exact Nat.le_trans (cnt_mono _ (Nat.le_of_lt hj)) hKd
            have hfj := (fa_fc (m := m) (F := F) hn hj).1
            unfold fX7_figure_L110
            dsimp only
            rw [if_neg (by rw [hfm]; exact nI_ge hj (by omega)), hclo7, hplace, bd_s (eX7_covers hn ?hlaid hj hni), hfn, ck_t (ok12 (by omega)), ck_t (p_ok (by omega) (by decide)), hN.f hk hm, hq.2.2.2.f hj hnf, bd_s (eX7_holds (by omega)), p_s1, p_s1, p_shl1 (by omega), p_or, Int32.or_zero, cwp_s, shl_b]
            case hlaid => exact hq.2
            rcases bool_ft (cvB n m F (cl n m F (2 ^ p)) (fa n m F j)) with b1 | b1
            · rw [if0_f b1, if_bf b1]
              exact ⟨_, rfl, rfl⟩
            · rw [if0_t b1, if_pos b1]
              rcases bool_ft (sbB (fa n m F j) (F k)) with b2 | b2
              · rw [if0_f b2, if_bf b2, Nat.or_zero]
                exact ⟨_, rfl, rfl⟩
              · rw [if0_t b2, if_pos b2]
                exact ⟨_, rfl, rfl⟩
          · subst hI
            unfold fX7_figure_L110
            dsimp only
            rw [if_pos (by rw [hfm]; exact nI_le (Nat.le_refl _) (by omega)), p_s1]
            refine ex_in (bd_in (eX7_addE (by exact h2) (lG k hk) (cwp n m F (cl n m F (2 ^ p)) (F k) (nf n m F)).1) (fun z hz => ?_))
            exact ⟨_, rfl, rfl, hz⟩
      · obtain ⟨vk, vg⟩ := v
        obtain ⟨h1, h2⟩ := hI
        dsimp only at h1 h2
        subst h1
        unfold fX7_figure_L74
        dsimp only
        rw [hN.m, if_pos (nI_le (Nat.le_refl _) (by omega))]
        refine ex_ex (bd_ex (eX7_takeMade hv'.2.2.1 (by exact h2)) (fun y hy => ?_))
        exact ⟨_, rfl, fin _ rfl hy.1.n ⟨hy.1, Or.inl hy.2, w4, w2⟩⟩
    · rw [bd_s (eX7_fails_f _ (decide_eq_false g) 2)]
      dsimp only
      rw [if_neg n10]
      by_cases g0 : K = 0
      · rw [if_pos g0]
        exact ⟨(.inl 0, _), _, rfl, rfl, sk_il (Or.inr rfl), hc_20.2.symm, sk_vl, n, m, F, hv, hi, hl, hN, Or.inr hq, hH, hS, hT⟩
      · rw [if_neg g0, if_neg (show ¬ nI K ≤ 8 from nI_ge (a := 8) (by omega) (by omega))]
        exact ⟨(.inl 0, _), _, rfl, rfl, sk_il (Or.inr rfl), hc_20.2.symm, sk_vl, n, m, F, hv, hi, hl, hN, Or.inr hq, hH, hS, hT⟩
end FG

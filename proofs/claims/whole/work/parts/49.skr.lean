/-! covers, the cover of a number, joins, meets -/
section SR
theorem eX7_fails_0 (o : OX7) (w : Int32) : fX7_fails o 0 w = some (1, s7_thrown o w) := rfl
theorem eX7_fails_1 (o : OX7) (w : Int32) : fX7_fails o 1 w = some (0, o) := rfl
variable {o : OX6} {r : OX7}
theorem sk_28 (h : Rel o r) (x y : Int32) : SK_28 Rel o r x y := by
  obtain ⟨n, m, F, hv, hi, hl, hN, hL, hH, hS, hT⟩ := h
  have hn := hv.2.1
  have h8 := p2_256 hn
  have hnf := nf_256 (m := m) (F := F) hn
  obtain ⟨q, e, hq⟩ := eX7_isFace (o := s7_thrown r 0) hv hN hL x
  unfold SK_28 fX6_covers fX7_covers_
  rw [eX6_checkFace hv hl x, bd_s e]
  dsimp only
  rcases bool_ft (okI x (nf n m F)) with hx | hx
  · rw [if_bf hx, bd_s (eX7_fails_f _ hx 1)]
    exact ⟨.inl 2, _, rfl, if_neg n10, sk_il rfl, hc_2.symm, sk_vl, n, m, F, hv, hi, hl, hN, Or.inr hq, hH, hS, hT⟩
  · obtain ⟨k, hk, rfl⟩ := okI_of hx (by omega)
    have hok : okI (nI k) 256 = true := p_ok (by omega) (by decide)
    rw [if_pos hx, Option.bind_some, xb_r, bd_s (eX7_fails_t _ hx 1), if_pos rfl, ck_t hok, hl.2.2.1.f hk hnf, bd_s (eX3_countCovers hn hl (bz y) (fa_fc hn hk).1), bd_s (eX7_coverCount hn ?hlaid (bz y) hk)]
    case hlaid => exact hq.2
    exact ⟨_, _, rfl, rfl, sk_ir, rfl, sk_vr rfl, n, m, F, hv, hi, hl, hN, Or.inr hq, hH, hS, hT⟩
/-- the place of the cover of a number among the faces -/
def CvAt (P : Nat → Bool) (N : Nat) (x : Int32) (j : Nat) : Prop := j < N ∧ P j = true ∧ x = nI (cnt P j)
theorem eX3_coverAt {n m : Nat} {F : Nat → Nat} {x : OX3} (hn : n ≤ 8) (h : LatR n m F x) (p : Int32) {a : Nat} (ha : a < 2 ^ n) (d : Int32) : ∃ v, fX3_coverAt x (nI a) p d = some v ∧ ((∃ j, CvAt (fun j => cwB n m F p a (fa n m F j)) (nf n m F) d j ∧ v = nI j) ∨ (v = -1 ∧ ∀ j, ¬ CvAt (fun j => cwB n m F p a (fa n m F j)) (nf n m F) d j)) := by
  have hnf := nf_256 (m := m) (F := F) hn
  unfold fX3_coverAt
  refine lp_inv (fun k v => v = (nI (cnt (fun j => cwB n m F p a (fa n m F j)) k), nI k) ∧ ∀ j, j < k → ¬ CvAt (fun j => cwB n m F p a (fa n m F j)) (nf n m F) d j) _ (nf n m F) ⟨rfl, fun j hj => absurd hj (Nat.not_lt_zero j)⟩ (fun k v hk hI => ?_) (fun v hI => ?_) (lpN_gt (by omega))
  · obtain ⟨rfl, hI⟩ := hI
    unfold fX3_coverAt_L6
    dsimp only
    rw [show q3_size x = nI (nf n m F) from h.2.2.1.1, if_neg (nI_ge hk (by omega)), ck_t (p_ok (by omega) (by decide)), h.2.2.1.f hk hnf, bd_s (eX3_inWay hn h.1.1 h.cl p ha (fa_fc hn hk).1), p_s1, p_s1]
    have hc := cnt_le (fun j => cwB n m F p a (fa n m F j)) k
    rcases bool_ft (cwB n m F p a (fa n m F k)) with hb | hb
    · rw [if0_f hb]
      refine Or.inl ⟨_, rfl, ?_, fun j hj => ?_⟩
      · rw [cnt_s, if_bf hb]
      · by_cases e : j = k
        · rw [e]; exact fun z => Bool.noConfusion (hb.symm.trans z.2.1)
        · exact hI j (by omega)
    · rw [if0_t hb]
      by_cases g : d = nI (cnt (fun j => cwB n m F p a (fa n m F j)) k)
      · rw [if_pos g.symm]
        exact Or.inr ⟨_, rfl, Or.inl ⟨k, ⟨hk, hb, g⟩, rfl⟩⟩
      · rw [if_neg (fun z => g z.symm)]
        refine Or.inl ⟨_, rfl, ?_, fun j hj => ?_⟩
        · rw [cnt_s, if_pos hb]
        · by_cases e : j = k
          · rw [e]; exact fun z => g z.2.2
          · exact hI j (by omega)
  · obtain ⟨rfl, hI⟩ := hI
    unfold fX3_coverAt_L6
    dsimp only
    rw [show q3_size x = nI (nf n m F) from h.2.2.1.1, if_pos (nI_le (Nat.le_refl _) (by omega))]
    exact ⟨_, rfl, Or.inr ⟨rfl, fun j z => hI j z.1 z⟩⟩
theorem sk_29 (h : Rel o r) (x y d : Int32) : SK_29 Rel o r x y d := by
  obtain ⟨n, m, F, hv, hi, hl, hN, hL, hH, hS, hT⟩ := h
  have hn := hv.2.1
  have h8 := p2_256 hn
  have hnf := nf_256 (m := m) (F := F) hn
  obtain ⟨q, e, hq⟩ := eX7_isFace (o := s7_thrown r 0) hv hN hL x
  unfold SK_29 fX6_cover fX7_cover
  rw [eX6_checkFace hv hl x, bd_s e]
  dsimp only
  rcases bool_ft (okI x (nf n m F)) with hx | hx
  · rw [if_bf hx, bd_s (eX7_fails_f _ hx 1)]
    exact ⟨.inl 2, _, rfl, if_neg n10, sk_il rfl, hc_2.symm, sk_vl, n, m, F, hv, hi, hl, hN, Or.inr hq, hH, hS, hT⟩
  · obtain ⟨k, hk, rfl⟩ := okI_of hx (by omega)
    have hok : okI (nI k) 256 = true := p_ok (by omega) (by decide)
    obtain ⟨v, g1, g2⟩ := eX3_coverAt hn hl (bz y) (fa_fc (m := m) (F := F) hn hk).1 d
    rw [if_pos hx, Option.bind_some, xb_r, bd_s (eX7_fails_t _ hx 1), if_pos rfl, ck_t hok, hl.2.2.1.f hk hnf, bd_s g1]
    generalize hP : (fun j => cwB n m F (bz y) (fa n m F k) (fa n m F j)) = P at g2
    have key : ∃ z, lp (fX7_cover_L26 r (nI k) (bz y) d (nI (okI (nI k) (nf n m F)).toNat, q) (0, s7_isLaid (s7_faceMany (s7_placeOf (s7_rankOf (s7_faces (s7_closed (s7_thrown r 0) (q7_closed q)) (q7_faces q)) (q7_rankOf q)) (q7_placeOf q)) (q7_faceMany q)) (q7_isLaid q))) lpN (d, 0) = some z ∧ ((∃ j, CvAt P (nf n m F) d j ∧ z.1 = nI j ∧ q7_thrown z.2 = 0) ∨ ((∀ j, ¬ CvAt P (nf n m F) d j) ∧ q7_thrown z.2 = 1)) ∧ Rel o (mh_cover r z.2) := by
      by_cases hd : d < 0
      · refine lp_inv (fun t v => t = 0 ∧ v = (d, 0)) _ 1 ⟨rfl, rfl⟩ (fun t v ht hI => Or.inr ?_) (fun v hI => absurd hI.1 (by decide)) (lpN_gt (by omega))
        obtain ⟨rfl, rfl⟩ := hI
        unfold fX7_cover_L26
        dsimp only
        rw [show q7_faceMany q = nI (nf n m F) from hq.2.2.2.1, if_neg (nI_nle (n := nf n m F) (by omega) (by omega)), if_pos hd, ← (show q7_faceMany q = nI (nf n m F) from hq.2.2.2.1)]
        refine ⟨_, rfl, Or.inr ⟨fun j z => ?_, rfl⟩, n, m, F, hv, hi, hl, hN, Or.inr hq, hH, hS, hT⟩
        have hc := cnt_le P j
        have hj := z.1
        rw [z.2.2] at hd
        exact nI_pos (by omega) hd
      · obtain ⟨D, hD, rfl⟩ := nI_of hd
        refine lp_inv (fun t v => cnt P t ≤ D ∧ v = (nI (D - cnt P t), nI t) ∧ ∀ j, j < t → ¬ CvAt P (nf n m F) (nI D) j) _ (nf n m F) ⟨Nat.zero_le _, rfl, fun j hj => absurd hj (Nat.not_lt_zero j)⟩ (fun t v ht hI => ?_) (fun v hI => ?_) (lpN_gt (by omega))
        · obtain ⟨hcD, rfl, hI⟩ := hI
          unfold fX7_cover_L26
          dsimp only
          have hc := cnt_le P t
          have hPt : P t = cwB n m F (bz y) (fa n m F k) (fa n m F t) := by rw [← hP]
          have step : (P t = false → (∃ s', (some (Sum.inl (nI (D - cnt P t), nI t + 1)) : Option ((Int32 × Int32) ⊕ (Int32 × OX7))) = some (.inl s') ∧ cnt P (t + 1) ≤ D ∧ s' = (nI (D - cnt P (t + 1)), nI (t + 1)) ∧ ∀ j, j < t + 1 → ¬ CvAt P (nf n m F) (nI D) j)) := fun hb => by
            refine ⟨_, rfl, by rw [cnt_s, if_bf hb]; exact hcD, by rw [cnt_s, if_bf hb, p_s1], fun j hj => ?_⟩
            by_cases e : j = t
            · rw [e]; exact fun z => Bool.noConfusion (hb.symm.trans z.2.1)
            · exact hI j (by omega)
          have step2 : P t = true → D ≠ cnt P t → (∃ s', (some (Sum.inl (nI (D - cnt P t) + -1, nI t + 1)) : Option ((Int32 × Int32) ⊕ (Int32 × OX7))) = some (.inl s') ∧ cnt P (t + 1) ≤ D ∧ s' = (nI (D - cnt P (t + 1)), nI (t + 1)) ∧ ∀ j, j < t + 1 → ¬ CvAt P (nf n m F) (nI D) j) := fun hb hne => by
            refine ⟨_, rfl, by rw [cnt_s, if_pos hb]; omega, ?_, fun j hj => ?_⟩
            · rw [cnt_s, if_pos hb, p_s1, ← Int32.sub_eq_add_neg]
              congr 1
              show nI (D - cnt P t) - nI 1 = _
              rw [p_sub (by omega)]
              congr 1
            · by_cases e : j = t
              · rw [e]; exact fun z => hne ((nI_eq hD (by omega)).mp z.2.2)
              · exact hI j (by omega)
          rw [show q7_faceMany q = nI (nf n m F) from hq.2.2.2.1, if_neg (nI_ge ht (by omega)), if_neg (nI_pos hD), ← (show q7_faceMany q = nI (nf n m F) from hq.2.2.2.1)]
          by_cases hy : bz y = 0
          · rw [if_pos hy, bd_s (eX7_covers hn ?hlaid hk ht)]
            case hlaid => exact hq.2
            have hPt2 : P t = cvB n m F (fa n m F t) (fa n m F k) := by rw [hPt]; unfold cwB; rw [if_pos hy]
            rw [← hPt2]
            rcases bool_ft (P t) with hb | hb
            · rw [if0_f hb]; exact Or.inl (step hb)
            · rw [if0_t hb]
              by_cases g : D = cnt P t
              · rw [if_pos (by rw [g, Nat.sub_self]; rfl)]
                exact Or.inr ⟨_, rfl, Or.inl ⟨t, ⟨ht, hb, by rw [g]⟩, rfl, rfl⟩, n, m, F, hv, hi, hl, hN, Or.inr hq, hH, hS, hT⟩
              · rw [if_neg (by rw [p_eq0 (by omega)]; omega)]
                exact Or.inl (step2 hb g)
          · rw [if_neg hy, bd_s (eX7_covers hn ?hlaid ht hk)]
            case hlaid => exact hq.2
            have hPt2 : P t = cvB n m F (fa n m F k) (fa n m F t) := by rw [hPt]; unfold cwB; rw [if_neg hy]
            rw [← hPt2]
            rcases bool_ft (P t) with hb | hb
            · rw [if0_f hb]; exact Or.inl (step hb)
            · rw [if0_t hb]
              by_cases g : D = cnt P t
              · rw [if_pos (by rw [g, Nat.sub_self]; rfl)]
                exact Or.inr ⟨_, rfl, Or.inl ⟨t, ⟨ht, hb, by rw [g]⟩, rfl, rfl⟩, n, m, F, hv, hi, hl, hN, Or.inr hq, hH, hS, hT⟩
              · rw [if_neg (by rw [p_eq0 (by omega)]; omega)]
                exact Or.inl (step2 hb g)
        · obtain ⟨hcD, rfl, hI⟩ := hI
          unfold fX7_cover_L26
          dsimp only
          rw [show q7_faceMany q = nI (nf n m F) from hq.2.2.2.1, if_pos (nI_le (Nat.le_refl _) (by omega)), ← (show q7_faceMany q = nI (nf n m F) from hq.2.2.2.1)]
          exact ⟨_, rfl, Or.inr ⟨fun j z => hI j z.1 z, rfl⟩, n, m, F, hv, hi, hl, hN, Or.inr hq, hH, hS, hT⟩
    obtain ⟨z, k1, k2, k3⟩ := key
    rcases g2 with ⟨j, a1, rfl⟩ | ⟨rfl, a2⟩
    · have hj := a1.1
      rw [if_neg (by rw [p_nm1 (by omega)]; exact id)]
      rcases k2 with ⟨i, b1, b2, b3⟩ | ⟨b1, b2⟩
      · have hci := cnt_le P i
        have hcj := cnt_le P j
        have hii := b1.1
        have : i = j := cnt_inj b1.2.1 a1.2.1 ((nI_eq (by omega) (by omega)).mp (b1.2.2.symm.trans a1.2.2))
        subst this
        exact ⟨_, z, rfl, k1, sk_ir, b3, sk_vr b2, k3⟩
      · exact absurd a1 (b1 j)
    · rw [if_pos rfl]
      rcases k2 with ⟨i, b1, b2, b3⟩ | ⟨b1, b2⟩
      · exact absurd b1 (a2 i)
      · exact ⟨_, z, rfl, k1, sk_il rfl, b2, sk_vl, k3⟩
theorem eX7_failsFaces {n m : Nat} {F : Nat → Nat} {o : OX7} (hv : IncV n m F) (hN : NowR n m F (q7_now o)) (hL : q7_isLaid o = 0 ∨ LdR n m F o) (x y : Int32) : ∃ q, fX7_failsFaces o x y = some (nI (!(okI x (nf n m F) && okI y (nf n m F))).toNat, q) ∧ LdR n m F q ∧ q7_thrown q = if okI x (nf n m F) = true then (if okI y (nf n m F) = true then q7_thrown o else 1) else 1 := by
  obtain ⟨q, e, hq⟩ := eX7_isFace hv hN hL x
  unfold fX7_failsFaces
  rw [bd_s e]
  dsimp only
  rcases bool_ft (okI x (nf n m F)) with hx | hx
  · rw [if0_f hx, hx]
    unfold fX7_failsFaces_J21 fX7_failsFaces_J22
    rw [bd_s (eX7_fails_0 _ 1)]
    exact ⟨_, rfl, hq, rfl⟩
  · obtain ⟨q2, e2, hq2⟩ := eX7_isFace (o := s7_isLaid (s7_faceMany (s7_placeOf (s7_rankOf (s7_faces (s7_closed o (q7_closed q)) (q7_faces q)) (q7_rankOf q)) (q7_placeOf q)) (q7_faceMany q)) (q7_isLaid q)) hv hN (Or.inr hq) y
    rw [if0_t hx, bd_s e2]
    dsimp only
    rcases bool_ft (okI y (nf n m F)) with hy | hy
    · rw [if0_f hy, hx, hy]
      unfold fX7_failsFaces_J21 fX7_failsFaces_J22
      rw [bd_s (eX7_fails_0 _ 1)]
      exact ⟨_, rfl, hq2, rfl⟩
    · rw [if0_t hy, hx, hy]
      unfold fX7_failsFaces_J22
      rw [bd_s (eX7_fails_1 _ 1)]
      exact ⟨_, rfl, hq2, rfl⟩
theorem sk_30 (h : Rel o r) (x y : Int32) : SK_30 Rel o r x y := by
  obtain ⟨n, m, F, hv, hi, hl, hN, hL, hH, hS, hT⟩ := h
  have hn := hv.2.1
  have h8 := p2_256 hn
  have hnf := nf_256 (m := m) (F := F) hn
  obtain ⟨q, e, hq, ht⟩ := eX7_failsFaces (o := s7_thrown r 0) hv hN hL x y
  unfold SK_30 fX6_join fX7_join
  rw [eX6_checkFace hv hl x, eX6_checkFace hv hl y, bd_s e]
  dsimp only
  rcases bool_ft (okI x (nf n m F)) with hx | hx
  · rw [if_bf hx] at ht ⊢
    rw [hx]
    exact ⟨.inl 2, _, rfl, if_neg n10, sk_il rfl, ht.trans hc_2.symm, sk_vl, n, m, F, hv, hi, hl, hN, Or.inr hq, hH, hS, hT⟩
  · rw [if_pos hx] at ht ⊢
    rcases bool_ft (okI y (nf n m F)) with hy | hy
    · rw [if_bf hy] at ht ⊢
      rw [hx, hy]
      exact ⟨.inl 2, _, rfl, if_neg n10, sk_il rfl, ht.trans hc_2.symm, sk_vl, n, m, F, hv, hi, hl, hN, Or.inr hq, hH, hS, hT⟩
    · rw [if_pos hy] at ht ⊢
      obtain ⟨k, hk, rfl⟩ := okI_of hx (by omega)
      obtain ⟨l, hl2, rfl⟩ := okI_of hy (by omega)
      have hok : okI (nI k) 256 = true := p_ok (by omega) (by decide)
      have hok2 : okI (nI l) 256 = true := p_ok (by omega) (by decide)
      have ho := or_lt2 (fa_fc (m := m) (F := F) hn hk).1 (fa_fc (m := m) (F := F) hn hl2).1
      have hcl := fc_cl n m F (fa n m F k ||| fa n m F l)
      have hcl1 := hcl.1
      have hok3 : okI (nI (fa n m F k ||| fa n m F l)) 256 = true := p_ok (by omega) (by decide)
      have hok4 : okI (nI (cl n m F (fa n m F k ||| fa n m F l))) 256 = true := p_ok (by omega) (by decide)
      rw [hx, hy, Option.bind_some, xb_r, Option.bind_some, xb_r, if0_f (b := !(true && true)) rfl, ck_t hok, ck_t hok, ck_t hok2, ck_t hok2, hl.2.2.1.f hk hnf, hq.2.2.2.f hk hnf, hl.2.2.1.f hl2 hnf, hq.2.2.2.f hl2 hnf, p_or, ck_t hok3, ck_t hok3, p_ix (by omega : (fa n m F k ||| fa n m F l) < 2147483648), hl.cl _ ho, hq.2.1 _ ho, ck_t hok4, ck_t hok4, hl.2.2.1.no hn hcl, hq.2.2.2.no hn hcl]
      exact ⟨_, _, rfl, rfl, sk_ir, ht, sk_vr rfl, n, m, F, hv, hi, hl, hN, Or.inr hq, hH, hS, hT⟩
theorem sk_31 (h : Rel o r) (x y : Int32) : SK_31 Rel o r x y := by
  obtain ⟨n, m, F, hv, hi, hl, hN, hL, hH, hS, hT⟩ := h
  have hn := hv.2.1
  have h8 := p2_256 hn
  have hnf := nf_256 (m := m) (F := F) hn
  obtain ⟨q, e, hq, ht⟩ := eX7_failsFaces (o := s7_thrown r 0) hv hN hL x y
  unfold SK_31 fX6_meet fX7_meet
  rw [eX6_checkFace hv hl x, eX6_checkFace hv hl y, bd_s e]
  dsimp only
  rcases bool_ft (okI x (nf n m F)) with hx | hx
  · rw [if_bf hx] at ht ⊢
    rw [hx]
    exact ⟨.inl 2, _, rfl, if_neg n10, sk_il rfl, ht.trans hc_2.symm, sk_vl, n, m, F, hv, hi, hl, hN, Or.inr hq, hH, hS, hT⟩
  · rw [if_pos hx] at ht ⊢
    rcases bool_ft (okI y (nf n m F)) with hy | hy
    · rw [if_bf hy] at ht ⊢
      rw [hx, hy]
      exact ⟨.inl 2, _, rfl, if_neg n10, sk_il rfl, ht.trans hc_2.symm, sk_vl, n, m, F, hv, hi, hl, hN, Or.inr hq, hH, hS, hT⟩
    · rw [if_pos hy] at ht ⊢
      obtain ⟨k, hk, rfl⟩ := okI_of hx (by omega)
      obtain ⟨l, hl2, rfl⟩ := okI_of hy (by omega)
      have hok : okI (nI k) 256 = true := p_ok (by omega) (by decide)
      have hok2 : okI (nI l) 256 = true := p_ok (by omega) (by decide)
      have hcl := fc_and (fa_fc (m := m) (F := F) hn hk) (fa_fc (m := m) (F := F) hn hl2)
      have hcl1 := hcl.1
      have hok3 : okI (nI (fa n m F k &&& fa n m F l)) 256 = true := p_ok (by omega) (by decide)
      rw [hx, hy, Option.bind_some, xb_r, Option.bind_some, xb_r, if0_f (b := !(true && true)) rfl, ck_t hok, ck_t hok, ck_t hok2, ck_t hok2, hl.2.2.1.f hk hnf, hq.2.2.2.f hk hnf, hl.2.2.1.f hl2 hnf, hq.2.2.2.f hl2 hnf, p_and, ck_t hok3, ck_t hok3, hl.2.2.1.no hn hcl, hq.2.2.2.no hn hcl]
      exact ⟨_, _, rfl, rfl, sk_ir, ht, sk_vr rfl, n, m, F, hv, hi, hl, hN, Or.inr hq, hH, hS, hT⟩
end SR

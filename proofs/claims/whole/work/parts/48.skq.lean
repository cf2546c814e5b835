/-! the calls that only ask: counts, sets, closures, faces, ranks, joins and meets -/
theorem sk_il {k0 : Nat} {P : Nat → Prop} (h : P k0) : ∀ k, (Sum.inl k0 : Nat ⊕ Int32) = .inl k → P k := fun k e => by cases e; exact h
theorem sk_ir {v0 : Int32} {P : Nat → Prop} : ∀ k, (Sum.inr v0 : Nat ⊕ Int32) = .inl k → P k := fun k e => by cases e
theorem sk_vl {k0 : Nat} {a : Int32} : ∀ v, (Sum.inl k0 : Nat ⊕ Int32) = .inr v → a = v := fun v e => by cases e
theorem sk_vr {v0 a : Int32} (h : a = v0) : ∀ v, (Sum.inr v0 : Nat ⊕ Int32) = .inr v → a = v := fun v e => by cases e; exact h
theorem hc_r (ks : List Nat) (v : Int32) : hcd ks (.inr v) = 0 := rfl
theorem hc_0 : hcd [0] (.inl 0) = 1 := by decide
theorem hc_1 : hcd [1] (.inl 1) = 1 := by decide
theorem hc_2 : hcd [2] (.inl 2) = 1 := by decide
theorem hc_3 : hcd [3] (.inl 3) = 1 := by decide
theorem hc_10 : hcd [1, 0] (.inl 1) = 1 ∧ hcd [1, 0] (.inl 0) = 2 := by decide
theorem hc_20 : hcd [2, 0] (.inl 2) = 1 ∧ hcd [2, 0] (.inl 0) = 2 := by decide
theorem hc_23 : hcd [2, 3] (.inl 2) = 1 ∧ hcd [2, 3] (.inl 3) = 2 := by decide
theorem hc_203 : hcd [2, 0, 3] (.inl 2) = 1 ∧ hcd [2, 0, 3] (.inl 0) = 2 ∧ hcd [2, 0, 3] (.inl 3) = 3 := by decide
theorem n10 : ¬ (1 : Int32) = 0 := by decide
theorem bool_ft (b : Bool) : b = false ∨ b = true := by cases b <;> simp
theorem xb_r {α : Type} (v : Int32) (f : Nat → Option α) (g : Int32 → Option α) : xb (.inr v) f g = g v := rfl
theorem xb_l {α : Type} (k : Nat) (f : Nat → Option α) (g : Int32 → Option α) : xb (.inl k) f g = f k := rfl
theorem if_bf {α : Type} {b : Bool} (h : b = false) (x y : α) : (if b = true then x else y) = y := by subst h; rfl
theorem NumI.nu {n m : Nat} {F : Nat → Nat} {size : Int32} {nu se : Nat → Int32} (h : NumI n (fl n m F) size nu se) (hn : n ≤ 8) {s : Nat} (hs : s < 2 ^ n) : nu (ix (nI s)) = if fcB n m F s = true then nI (ni n m F s) else -1 := by
  by_cases fs : Fc n m F s
  · rw [if_pos ((fcB_t hs).mpr fs), h.no hn fs]
  · have h8 := p2_256 hn
    rw [if_bf (fcB_f hs fs), p_ix (by omega)]
    exact h.2.2.2 s hs fun z => fs ((mem_fl hn).mp z)
theorem cnt_take (P : Nat → Bool) (L : List Nat) : ∀ k, k ≤ L.length → cnt (fun j => P (L.getD j 0)) k = (L.take k).countP P := by
  intro k
  induction k with
  | zero => intro _; rfl
  | succ k ih =>
    intro hk
    have e : L.getD k 0 = L[k]'(by omega) := by rw [List.getD_eq_getElem?_getD, List.getElem?_eq_getElem (by omega)]; rfl
    rw [cnt_s, ih (by omega), List.take_succ_eq_append_getElem (by omega), List.countP_append, List.countP_singleton, e]
    split <;> rfl
theorem cnt_list (P : Nat → Bool) (L : List Nat) : cnt (fun j => P (L.getD j 0)) L.length = L.countP P := by
  rw [cnt_take P L _ (Nat.le_refl _), List.take_length]
theorem cnt_fa {n m : Nat} {F : Nat → Nat} (P : Nat → Bool) : cnt (fun j => P (fa n m F j)) (nf n m F) = (fl n m F).countP P := cnt_list P (fl n m F)
theorem cp_flR {n m : Nat} {F : Nat → Nat} (r q : Nat) : (flR n m F q (2 ^ n)).countP (fun s => Nat.beq (rk n m F s) r) = if q = r then (flR n m F r (2 ^ n)).length else 0 := by
  by_cases e : q = r
  · rw [if_pos e, e, List.countP_eq_length]
    exact fun s hs => beq_t.mpr ((mem_flR (Nat.le_refl _)).mp hs).2.2
  · rw [if_neg e, List.countP_eq_zero]
    exact fun s hs => by rw [((mem_flR (Nat.le_refl _)).mp hs).2.2, nbeq_f e]; exact Bool.false_ne_true
theorem cp_flT {n m : Nat} {F : Nat → Nat} (r : Nat) : ∀ R, (flT n m F R).countP (fun s => Nat.beq (rk n m F s) r) = if r < R then (flR n m F r (2 ^ n)).length else 0 := by
  intro R
  induction R with
  | zero => rfl
  | succ R ih =>
    rw [flT_s, List.countP_append, ih, cp_flR]
    by_cases e : R = r
    · subst e; rw [if_neg (by omega), if_pos rfl, if_pos (by omega)]; omega
    · rw [if_neg e]
      by_cases g : r < R
      · rw [if_pos g, if_pos (by omega)]; omega
      · rw [if_neg g, if_neg (by omega)]
theorem sk_lp {α β : Type} {x : α} {Y : Option β} {P : α → β → Prop} (h : ∃ r, Y = some r ∧ P x r) : ∃ res res2, some x = some res ∧ Y = some res2 ∧ P res res2 := by
  obtain ⟨r, h1, h2⟩ := h
  exact ⟨x, r, rfl, h1, h2⟩
theorem lp_cntE {σ ρ α : Type} {body : σ → Option (σ ⊕ ρ)} (mk : Nat → α → σ) (f : Nat → α → α) (a : α) {Post : ρ → Prop} (n : Nat) (P : Nat → α → Prop) (h0 : P 0 a) (hs : ∀ k x, k < n → P k x → body (mk k x) = some (.inl (mk (k + 1) (f k x))) ∧ P (k + 1) (f k x)) (he : P n (itn f a n) → ∃ r, body (mk n (itn f a n)) = some (.inr r) ∧ Post r) {fuel : Nat} (hf : n < fuel) : ∃ r, lp body fuel (mk 0 a) = some r ∧ Post r := by
  have hP : ∀ k, k ≤ n → P k (itn f a k) := by
    intro k
    induction k with
    | zero => intro _; exact h0
    | succ k ih => intro hk; exact (hs k _ (by omega) (ih (by omega))).2
  obtain ⟨r, h1, h2⟩ := he (hP n (Nat.le_refl n))
  exact ⟨r, lp_go (fun k => mk k (itn f a k)) n (fun k hk => (hs k _ hk (hP k (by omega))).1) h1 hf, h2⟩
section SQ
variable {o : OX6} {r : OX7}
theorem sk_14 (h : Rel o r) : SK_14 Rel o r := by
  obtain ⟨n, m, F, hv, hi, hl, hN, hL, hH, hS, hT⟩ := h
  obtain ⟨c, d, H, h1, h2, h3, h4, h5, h6⟩ := id hH
  exact ⟨_, _, rfl, rfl, h3.trans h5.symm, n, m, F, hv, hi, hl, hN, hL, hH, hS, hT⟩
theorem sk_17 (h : Rel o r) : SK_17 Rel o r := by
  obtain ⟨n, m, F, hv, hi, hl, hN, hL, hH, hS, hT⟩ := h
  exact ⟨_, _, rfl, rfl, hi.1.trans hN.n.symm, n, m, F, hv, hi, hl, hN, hL, hH, hS, hT⟩
theorem sk_18 (h : Rel o r) : SK_18 Rel o r := by
  obtain ⟨n, m, F, hv, hi, hl, hN, hL, hH, hS, hT⟩ := h
  exact ⟨_, _, rfl, rfl, hi.2.1.trans hN.m.symm, n, m, F, hv, hi, hl, hN, hL, hH, hS, hT⟩
theorem sk_19 (h : Rel o r) (x : Int32) : SK_19 Rel o r x := by
  obtain ⟨n, m, F, hv, hi, hl, hN, hL, hH, hS, hT⟩ := h
  have hm := hv.2.2.1
  unfold SK_19 fX6_facet fX7_facet
  rw [eX6_checkFacet hv hi x, bd_s (eX7_isFacet (o := s7_thrown r 0) hv hN x)]
  rcases bool_ft (okI x m) with hx | hx
  · rw [if_neg (by rw [hx]; exact Bool.false_ne_true), bd_s (eX7_fails_f _ hx 1)]
    refine ⟨.inl 2, _, rfl, if_neg n10, sk_il rfl, hc_2.symm, sk_vl, n, m, F, hv, hi, hl, hN, hL, hH, hS, hT⟩
  · rw [if_pos hx, bd_s (eX7_fails_t _ hx 1)]
    obtain ⟨k, hk, rfl⟩ := okI_of hx (by omega)
    refine ⟨.inr (nI (F k)), (nI (F k), s7_thrown r 0), ?_, ?_, sk_ir, rfl, sk_vr rfl, n, m, F, hv, hi, hl, hN, hL, hH, hS, hT⟩
    · show ck (okI (nI k) 10) (some (Sum.inr (q2_sets (q6_now o) (ix (nI k))))) = _
      rw [ck_t (p_ok (by omega) (by decide)), p_ix (by omega), hi.2.2 k hk]
    · dsimp only
      rw [if_pos rfl, ck_t (ok12 (by omega)), hN.f hk hm]
theorem sk_20 (h : Rel o r) (x : Int32) : SK_20 Rel o r x := by
  obtain ⟨n, m, F, hv, hi, hl, hN, hL, hH, hS, hT⟩ := h
  have hn := hv.2.1
  have hm := hv.2.2.1
  unfold SK_20 fX6_facetsOf fX7_facetsOf
  rw [eX6_checkPoint hv hi x, bd_s (eX7_isPoint (o := s7_thrown r 0) hv hN x)]
  rcases bool_ft (okI x n) with hx | hx
  · rw [if_neg (by rw [hx]; exact Bool.false_ne_true), bd_s (eX7_fails_f _ hx 1)]
    refine ⟨.inl 2, _, rfl, if_neg n10, sk_il rfl, hc_2.symm, sk_vl, n, m, F, hv, hi, hl, hN, hL, hH, hS, hT⟩
  · rw [if_pos hx, bd_s (eX7_fails_t _ hx 1)]
    obtain ⟨k, hk, rfl⟩ := okI_of hx (by omega)
    have e7 : fX7_facetsWith (s7_thrown r 0) (nI k) = some (nI (hold F k m)) := by
      unfold fX7_facetsWith
      refine lp_cnt (fun k h => (nI h, nI k)) (fun t h => if (F t).testBit k then h ||| 2 ^ t else h) 0 m (fun _ _ => True) trivial (fun t h ht _ => ⟨?_, trivial⟩) (fun _ => ?_) (lpN_gt (by omega))
      · unfold fX7_facetsWith_L4
        dsimp only
        have hf := hv.lt ht
        have h1 : (q7_now (s7_thrown r 0)) (ix 1) = nI m := hN.m
        have h2 : (q7_now (s7_thrown r 0)) (ix (2 + nI t)) = nI (F t) := hN.f ht hm
        rw [h1, h2, if_neg (nI_ge ht (by omega)), ck_t (ok12 (by omega)), bd_s (eX7_has (by omega) (by omega)), p_s1, p_shl1 (by omega), p_or]
        cases g : (F t).testBit k
        · rw [if0_f rfl, if_neg Bool.false_ne_true, Int32.or_zero]
        · rfl
      · unfold fX7_facetsWith_L4
        dsimp only
        have h1 : (q7_now (s7_thrown r 0)) (ix 1) = nI m := hN.m
        rw [h1, if_pos (nI_le (Nat.le_refl m) (by omega))]
        rfl
    refine ⟨.inr (nI (hold F k m)), (nI (hold F k m), s7_thrown r 0), ?_, ?_, sk_ir, rfl, sk_vr rfl, n, m, F, hv, hi, hl, hN, hL, hH, hS, hT⟩
    · show (fX2_holders (q6_now o) (nI k)).bind _ = _
      rw [bd_s (eX2_holders hi hv (by omega))]
    · dsimp only
      rw [if_pos rfl]
      show (fX7_facetsWith (s7_thrown r 0) (nI k)).bind _ = _
      rw [bd_s e7]
theorem sk_21 (h : Rel o r) (x : Int32) : SK_21 Rel o r x := by
  obtain ⟨n, m, F, hv, hi, hl, hN, hL, hH, hS, hT⟩ := h
  have hn := hv.2.1
  have h8 := p2_256 hn
  unfold SK_21 fX6_closure fX7_closure
  rw [eX6_checkSet hv hi x, bd_s (eX7_isSet (o := s7_thrown r 0) hv hN x)]
  rcases bool_ft (okI x (2 ^ n)) with hx | hx
  · rw [if_neg (by rw [hx]; exact Bool.false_ne_true), bd_s (eX7_fails_f _ hx 1)]
    refine ⟨.inl 1, _, rfl, if_neg n10, sk_il rfl, hc_1.symm, sk_vl, n, m, F, hv, hi, hl, hN, hL, hH, hS, hT⟩
  · rw [if_pos hx, bd_s (eX7_fails_t _ hx 1)]
    obtain ⟨k, hk, rfl⟩ := okI_of hx (by omega)
    refine ⟨.inr (nI (cl n m F k)), (nI (cl n m F k), s7_thrown r 0), ?_, ?_, sk_ir, rfl, sk_vr rfl, n, m, F, hv, hi, hl, hN, hL, hH, hS, hT⟩
    · show ck (okI (nI k) 256) (some (Sum.inr (q3_closed (q6_lattice o) (ix (nI k))))) = _
      rw [ck_t (p_ok (by omega) (by decide)), p_ix (by omega), hl.cl k hk]
    · dsimp only
      rw [if_pos rfl]
      show (fX7_closureOf (s7_thrown r 0) (nI k)).bind _ = _
      rw [bd_s (eX7_closureOf (o := s7_thrown r 0) hN hv (by omega))]
theorem sk_22 (h : Rel o r) : SK_22 Rel o r := by
  obtain ⟨n, m, F, hv, hi, hl, hN, hL, hH, hS, hT⟩ := h
  obtain ⟨q, e, hq⟩ := eX7_lay (o := s7_thrown r 0) hv hN hL
  unfold SK_22 fX6_faceCount fX7_faceCount fX7_faceManyNow
  rw [bd_s e]
  exact ⟨_, _, rfl, rfl, hl.2.2.1.1.trans hq.2.2.2.1.symm, n, m, F, hv, hi, hl, hN, Or.inr hq, hH, hS, hT⟩
theorem sk_23 (h : Rel o r) (x : Int32) : SK_23 Rel o r x := by
  obtain ⟨n, m, F, hv, hi, hl, hN, hL, hH, hS, hT⟩ := h
  have hn := hv.2.1
  have hnf := nf_256 (m := m) (F := F) hn
  obtain ⟨q, e, hq⟩ := eX7_isFace (o := s7_thrown r 0) hv hN hL x
  unfold SK_23 fX6_face fX7_face
  rw [eX6_checkFace hv hl x, bd_s e]
  dsimp only
  rcases bool_ft (okI x (nf n m F)) with hx | hx
  · rw [if_bf hx, bd_s (eX7_fails_f _ hx 1)]
    exact ⟨.inl 2, _, rfl, if_neg n10, sk_il rfl, hc_2.symm, sk_vl, n, m, F, hv, hi, hl, hN, Or.inr hq, hH, hS, hT⟩
  · obtain ⟨k, hk, rfl⟩ := okI_of hx (by omega)
    have hok : okI (nI k) 256 = true := p_ok (by omega) (by decide)
    rw [if_pos hx, Option.bind_some, xb_r, bd_s (eX7_fails_t _ hx 1), if_pos rfl, ck_t hok, ck_t hok, hl.2.2.1.f hk hnf, hq.2.2.2.f hk hnf]
    exact ⟨_, _, rfl, rfl, sk_ir, rfl, sk_vr rfl, n, m, F, hv, hi, hl, hN, Or.inr hq, hH, hS, hT⟩
theorem sk_24 (h : Rel o r) (x : Int32) : SK_24 Rel o r x := by
  obtain ⟨n, m, F, hv, hi, hl, hN, hL, hH, hS, hT⟩ := h
  have hn := hv.2.1
  have h8 := p2_256 hn
  obtain ⟨q, e, hq⟩ := eX7_lay (o := s7_thrown r 0) hv hN hL
  unfold SK_24 fX6_indexOf fX7_indexOf
  rw [bd_s e, bd_s (eX6_isSet hv hi x), bd_s (eX7_isSet hv ?hnow x)]
  case hnow => exact hN
  rcases bool_ft (okI x (2 ^ n)) with hx | hx
  · rw [hx]
    exact ⟨_, _, rfl, rfl, rfl, n, m, F, hv, hi, hl, hN, Or.inr hq, hH, hS, hT⟩
  · obtain ⟨k, hk, rfl⟩ := okI_of hx (by omega)
    have hok : okI (nI k) 256 = true := p_ok (by omega) (by decide)
    rw [hx, if0_t rfl, if0_t rfl, ck_t hok, ck_t hok, hl.2.2.1.nu hn hk, hq.2.2.2.nu hn hk]
    exact ⟨_, _, rfl, rfl, rfl, n, m, F, hv, hi, hl, hN, Or.inr hq, hH, hS, hT⟩
theorem sk_25 (h : Rel o r) (x : Int32) : SK_25 Rel o r x := by
  obtain ⟨n, m, F, hv, hi, hl, hN, hL, hH, hS, hT⟩ := h
  have hn := hv.2.1
  have h8 := p2_256 hn
  have hnf := nf_256 (m := m) (F := F) hn
  obtain ⟨q, e, hq⟩ := eX7_isFace (o := s7_thrown r 0) hv hN hL x
  unfold SK_25 fX6_rank fX7_rank
  rw [eX6_checkFace hv hl x, bd_s e]
  dsimp only
  rcases bool_ft (okI x (nf n m F)) with hx | hx
  · rw [if_bf hx, bd_s (eX7_fails_f _ hx 1)]
    exact ⟨.inl 2, _, rfl, if_neg n10, sk_il rfl, hc_2.symm, sk_vl, n, m, F, hv, hi, hl, hN, Or.inr hq, hH, hS, hT⟩
  · obtain ⟨k, hk, rfl⟩ := okI_of hx (by omega)
    have hok : okI (nI k) 256 = true := p_ok (by omega) (by decide)
    have hf := fa_fc (m := m) (F := F) hn hk
    have hf1 := hf.1
    rw [if_pos hx, Option.bind_some, xb_r, bd_s (eX7_fails_t _ hx 1), if_pos rfl, ck_t hok, hl.2.2.1.f hk hnf, ck_t (p_ok (by omega) (by decide)), p_ix (by omega : fa n m F k < 2147483648), hl.2.1 _ hf, bd_s (eX7_rankAt hn ?hlaid hk)]
    case hlaid => exact hq.2
    exact ⟨_, _, rfl, rfl, sk_ir, rfl, sk_vr rfl, n, m, F, hv, hi, hl, hN, Or.inr hq, hH, hS, hT⟩
theorem eX3_top {n m : Nat} {F : Nat → Nat} {x : OX3} (hn : n ≤ 8) (h : LatR n m F x) : fX3_top x = some (nI (rk n m F (2 ^ n - 1))) := by
  have h8 := p2_256 hn
  unfold fX3_top
  rw [h.1.2.1, ck_t (p_ok (by omega) (by decide)), p_ix (by omega), h.2.1 _ fc_all]
theorem eX7_heightNow {n m : Nat} {F : Nat → Nat} {o : OX7} (hv : IncV n m F) (hN : NowR n m F (q7_now o)) (hL : q7_isLaid o = 0 ∨ LdR n m F o) : ∃ q, fX7_heightNow o = some (nI (rk n m F (2 ^ n - 1)), q) ∧ LdR n m F q := by
  have hn := hv.2.1
  have h8 := p2_256 hn
  obtain ⟨q, e, hq⟩ := eX7_lay hv hN hL
  unfold fX7_heightNow
  rw [bd_s e, bd_s (eX7_all hn ?hnow)]
  case hnow => exact hN
  rw [ck_t (p_ok (by omega) (by decide)), p_ix (by omega), hq.2.2.1 _ fc_all]
  exact ⟨_, rfl, hq⟩
theorem sk_26 (h : Rel o r) : SK_26 Rel o r := by
  obtain ⟨n, m, F, hv, hi, hl, hN, hL, hH, hS, hT⟩ := h
  obtain ⟨q, e, hq⟩ := eX7_heightNow (o := s7_thrown r 0) hv hN hL
  unfold SK_26 fX6_height fX7_height
  rw [bd_s e, bd_s (eX3_top hv.2.1 hl)]
  exact ⟨_, _, rfl, rfl, rfl, n, m, F, hv, hi, hl, hN, Or.inr hq, hH, hS, hT⟩
theorem ifle {α : Type} (x : Int32) {N : Nat} (hN : N < 2147483647) (a b : α) : (if x < 0 then a else (if x ≤ nI N then b else a)) = if okI x (N + 1) = true then b else a := by
  by_cases h : x < 0
  · rw [if_pos h, okI_neg h, if_neg Bool.false_ne_true]
  · rw [if_neg h]
    obtain ⟨j, h1, rfl⟩ := nI_of h
    rw [okI_nI h1]
    by_cases g : j < N + 1
    · rw [if_pos (by rw [p_le h1 (by omega)]; omega), decide_eq_true g, if_pos rfl]
    · rw [if_neg (by rw [p_le h1 (by omega)]; omega), decide_eq_false g, if_neg Bool.false_ne_true]
theorem sk_27 (h : Rel o r) (x : Int32) : SK_27 Rel o r x := by
  obtain ⟨n, m, F, hv, hi, hl, hN, hL, hH, hS, hT⟩ := h
  have hn := hv.2.1
  have h8 := p2_256 hn
  have hnf := nf_256 (m := m) (F := F) hn
  have ht : rk n m F (2 ^ n - 1) ≤ 8 := rk_8 hn fc_all
  obtain ⟨q, e, hq⟩ := eX7_heightNow (o := s7_thrown r 0) hv hN hL
  unfold SK_27 fX6_ofRank fX7_ofRank
  rw [bd_s e, bd_s (eX3_top hn hl), ifle x (by omega)]
  dsimp only
  rw [bd_s (eX7_inN x (by omega))]
  rcases bool_ft (okI x (rk n m F (2 ^ n - 1) + 1)) with hx | hx
  · rw [if_bf hx, bd_s (eX7_fails_f _ hx 1)]
    exact ⟨.inl 1, _, rfl, if_neg n10, sk_il rfl, hc_1.symm, sk_vl, n, m, F, hv, hi, hl, hN, Or.inr hq, hH, hS, hT⟩
  · obtain ⟨k, hk, rfl⟩ := okI_of hx (by omega)
    rw [if_pos hx, bd_s (eX7_fails_t _ hx 1), if_pos rfl, ck_t (p_ok (by omega) (by decide)), p_ix (by omega), hl.2.2.2 k (by omega)]
    refine sk_lp (lp_cntE (fun k c => (nI c, nI k)) (fun t x => if Nat.beq (rk n m F (fa n m F t)) k = true then x + 1 else x) 0 (nf n m F) (fun _ _ => True) trivial (fun t c ht _ => ⟨?_, trivial⟩) (fun _ => ?_) (lpN_gt (by omega)))
    · unfold fX7_ofRank_L28
      dsimp only
      rw [show q7_faceMany q = nI (nf n m F) from hq.2.2.2.1, if_neg (nI_ge ht (by omega)), bd_s (eX7_rankAt hn ?hlaid ht)]
      case hlaid => exact ⟨hq.2.1, hq.2.2.1, rfl, hq.2.2.2.2⟩
      have b := rk_8 hn (fa_fc (m := m) (F := F) hn ht)
      by_cases g : rk n m F (fa n m F t) = k
      · rw [if_pos (by rw [g]), if_pos (beq_t.mpr g), p_s1, p_s1]
      · rw [if_neg (by rw [p_eq (by omega) (by omega)]; exact g), if_bf (nbeq_f g), p_s1, Int32.add_zero]
    · unfold fX7_ofRank_L28
      dsimp only
      rw [show q7_faceMany q = nI (nf n m F) from hq.2.2.2.1, if_pos (nI_le (Nat.le_refl _) (by omega)), ← (show q7_faceMany q = nI (nf n m F) from hq.2.2.2.1)]
      refine ⟨_, rfl, sk_ir, rfl, sk_vr ?_, n, m, F, hv, hi, hl, hN, Or.inr hq, hH, hS, hT⟩
      show nI (cnt (fun j => Nat.beq (rk n m F (fa n m F j)) k) (nf n m F)) = _
      rw [cnt_fa (fun s => Nat.beq (rk n m F s) k)]
      show nI ((flT n m F 9).countP _) = _
      rw [cp_flT, if_pos (by omega)]
end SQ

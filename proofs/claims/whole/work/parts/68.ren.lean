/-! sets numbered anew -/
theorem cnt_cp (P : Nat → Bool) (k : Nat) : cnt P k = (List.range k).countP P := by
  induction k with
  | zero => rfl
  | succ k ih =>
    rw [cnt_s, ih, List.range_succ, List.countP_append, List.countP_singleton]
    split <;> rfl
theorem pc_cnt (s : Nat) : pc s = cnt (fun i => s.testBit i) 8 := (cnt_cp _ 8).symm
/-- the points of a part, numbered within a set: what is found, how many of the set are through -/
def rnp (s k j : Nat) : Nat × Nat := itn (fun p x => if k.testBit p = true then (x.1 ||| (s.testBit p).toNat <<< x.2, x.2 + 1) else x) (0, 0) j
def rn (s k : Nat) : Nat := (rnp s k 8).1
theorem rnp_s (s k j : Nat) : rnp s k (j + 1) = if k.testBit j = true then ((rnp s k j).1 ||| (s.testBit j).toNat <<< (rnp s k j).2, (rnp s k j).2 + 1) else rnp s k j := rfl
theorem rnp_2 (s k j : Nat) : (rnp s k j).2 = cnt (fun i => k.testBit i) j := by
  induction j with
  | zero => rfl
  | succ j ih =>
    rw [rnp_s, cnt_s]
    by_cases h : k.testBit j = true
    · rw [if_pos h, if_pos h, ih]
    · rw [if_neg h, if_neg h, ih]
theorem shl_b (b : Bool) (x : Nat) : b.toNat <<< x = if b = true then 2 ^ x else 0 := by
  cases b
  · rw [if_neg Bool.false_ne_true, show false.toNat = 0 from rfl, Nat.zero_shiftLeft]
  · rw [if_pos rfl, show true.toNat = 1 from rfl, Nat.one_shiftLeft]
theorem or_sh {a x : Nat} (h : a < 2 ^ x) (b : Bool) : a ||| b.toNat <<< x < 2 ^ (x + 1) := by
  rw [shl_b]
  cases b
  · rw [if_neg Bool.false_ne_true, Nat.or_zero]
    exact Nat.lt_of_lt_of_le h (p2_lt (Nat.le_succ x))
  · rw [if_pos rfl]; exact or_up h
theorem rnp_lt (s k j : Nat) : (rnp s k j).1 < 2 ^ (rnp s k j).2 := by
  induction j with
  | zero => exact (by decide : 0 < 2 ^ 0)
  | succ j ih =>
    rw [rnp_s]
    by_cases h : k.testBit j = true
    · rw [if_pos h]; exact or_sh ih _
    · rw [if_neg h]; exact ih
theorem rn_lt (s k : Nat) : rn s k < 2 ^ pc k := by
  have := rnp_lt s k 8
  rw [rnp_2, ← pc_cnt] at this
  exact this
theorem rnp_le (s k j : Nat) : (rnp s k j).2 ≤ j := by rw [rnp_2]; exact cnt_le _ _
theorem eX2_renumbered {s k : Nat} (hs : s < 2147483648) (hk : k < 2147483648) : fX2_renumbered (nI s) (nI k) = some (nI (rn s k)) := by
  unfold fX2_renumbered
  refine lp_go (fun j => (nI (rnp s k j).1, nI (rnp s k j).2, nI j)) 8 (fun j hj => ?_) ?_ (lpN_gt (by omega))
  · have h2 := rnp_le s k j
    unfold fX2_renumbered_L7
    dsimp only
    rw [if_neg (show ¬ (8 : Int32) ≤ nI j from nI_ge (b := 8) hj (by omega)), p_bit1 hk (by omega), p_bit1 hs (by omega), p_shl _ (by omega), p_or, p_s1, p_s1, rnp_s]
    rcases bool_ft (k.testBit j) with b | b
    · rw [if1_f b, if_bf b]
    · rw [if1_t b, if_pos b]
  · unfold fX2_renumbered_L7
    dsimp only
    rw [if_pos (show (8 : Int32) ≤ nI 8 from nI_le (a := 8) (Nat.le_refl 8) (by omega))]
    rfl
theorem eX7_within {s k : Nat} (hs : s < 2147483648) (hk : k < 2147483648) : fX7_within (nI s) (nI k) = some (nI (rn s k)) := by
  unfold fX7_within
  refine lp_go (fun j => (nI (rnp s k j).1, nI (rnp s k j).2, nI j)) 8 (fun j hj => ?_) ?_ (lpN_gt (by omega))
  · have h2 := rnp_le s k j
    unfold fX7_within_L7
    dsimp only
    rw [if_neg (show ¬ (8 : Int32) ≤ nI j from nI_ge (b := 8) hj (by omega)), bd_s (eX7_has hk (by omega)), bd_s (eX7_has hs (by omega)), p_shl1 (by omega), p_or, p_s1, p_s1, rnp_s, shl_b, Int32.or_zero]
    rcases bool_ft (k.testBit j) with b | b
    · rw [if0_f b, if_bf b]
    · rw [if0_t b, if_pos b]
      rcases bool_ft (s.testBit j) with b2 | b2
      · rw [if0_f b2, if_bf b2, Nat.or_zero]
      · rw [if0_t b2, if_pos b2]
  · unfold fX7_within_L7
    dsimp only
    rw [if_pos (show (8 : Int32) ≤ nI 8 from nI_le (a := 8) (Nat.le_refl 8) (by omega))]
    rfl
theorem eX7_bits {s : Nat} (hs : s < 256) : fX7_bits (nI s) = some (nI (pc s)) := by
  have e : cnt (fun i => s.testBit i) 16 = pc s := by
    rw [pc_cnt]
    have h : ∀ k, cnt (fun i => s.testBit i) (8 + k) = cnt (fun i => s.testBit i) 8 := fun k => by
      induction k with
      | zero => rfl
      | succ k ih =>
        rw [show 8 + (k + 1) = (8 + k) + 1 by omega, cnt_s, ih, if_neg]
        rw [Nat.testBit_lt_two_pow (Nat.lt_of_lt_of_le hs (p2_lt (n := 8) (by omega)))]
        exact Bool.false_ne_true
    exact h 8
  rw [← e]
  unfold fX7_bits
  refine lp_cnt (fun k x => (nI x, nI k)) (fun t x => if s.testBit t = true then x + 1 else x) 0 16 (fun _ _ => True) trivial (fun k x hk _ => ⟨?_, trivial⟩) (fun _ => ?_) (lpN_gt (by omega))
  · unfold fX7_bits_L4
    dsimp only
    rw [if_neg (show ¬ (16 : Int32) ≤ nI k from nI_ge (b := 16) hk (by omega)), p_bit1 (by omega) (by omega), p_s1, nI_add]
    cases s.testBit k <;> rfl
  · unfold fX7_bits_L4
    dsimp only
    rw [if_pos (show (16 : Int32) ≤ nI 16 from nI_le (a := 16) (Nat.le_refl 16) (by omega))]
    rfl
section KF
variable {n m : Nat} {F : Nat → Nat}
def kfL (n m : Nat) (F : Nat → Nat) (S k : Nat) : List Nat := fm (fun c => cvB n m F (fa n m F c) S) (fun c => rn (fa n m F c) S) k
variable {o : OX6} {r : OX7}
theorem pc_pos {s : Nat} (hs : s < 256) (h : s ≠ 0) : 1 ≤ pc s := by
  have h1 := pc_lt (t := 0) hs (sb0 s) (fun z => h z.symm)
  omega
theorem sk_11 (h : Rel o r) (x : Int32) : SK_11 Rel o r x := by
  obtain ⟨n, m, F, hv, hi, hl, hN, hL, hH, hS, hT⟩ := h
  obtain ⟨c, d, H, hc, hd, hA, hB, hE⟩ := HiR_to hH
  have hn := hv.2.1
  have h8 := p2_256 hn
  have hm := hv.2.2.1
  have hnf := nf_256 (m := m) (F := F) hn
  obtain ⟨q, e, hq⟩ := eX7_isFace (o := s7_thrown r 0) hv hN hL x
  have hfm : q7_faceMany q = nI (nf n m F) := hq.2.2.2.1
  unfold SK_11 fX6_keepFace fX7_keepFace
  rw [eX6_checkFace hv hl x, bd_s e]
  dsimp only
  rcases bool_ft (okI x (nf n m F)) with hx | hx
  · rw [if_bf hx, bd_s (eX7_fails_f _ hx 1)]
    exact ⟨(.inl 2, _), _, rfl, if_neg n10, sk_il (Or.inl rfl), hc_20.1.symm, sk_vl, n, m, F, hv, hi, hl, hN, Or.inr hq, hH, hS, hT⟩
  · obtain ⟨k0, hk0, rfl⟩ := okI_of hx (by omega)
    have hok0 : okI (nI k0) 256 = true := p_ok (by omega) (by decide)
    have fS := fa_fc (m := m) (F := F) hn hk0
    have fS1 := fS.1
    have hpc8 := pc_le (fa n m F k0)
    generalize hK : cnt (fun j => cvB n m F (fa n m F j) (fa n m F k0)) (nf n m F) = K
    have hKle : K ≤ 256 := by rw [← hK]; exact Nat.le_trans (cnt_le _ _) hnf
    have hK6 : fX3_countCovers (q6_lattice o) (nI (fa n m F k0)) 0 = some (nI K) := by
      rw [eX3_countCovers hn hl 0 fS1, ← hK]
      rfl
    have hK7 : ∀ w : OX7, LaidR n m F (q7_closed w) (q7_faces w) (q7_rankOf w) (q7_placeOf w) (q7_faceMany w) → fX7_coverCount w (nI k0) 0 = some (nI K) := fun w hw => by
      rw [eX7_coverCount hn hw 0 hk0, ← hK]
      rfl
    rw [if_pos hx, Option.bind_some, xb_r, bd_s (eX7_fails_t _ hx 1), if_pos rfl, ck_t hok0, ck_t hok0, hl.2.2.1.f hk0 hnf, hq.2.2.2.f hk0 hnf, ifq0 (by omega), ifq0 (by omega), bd_s hK6, bd_s (hK7 _ ?hw), bd_s (bitCount_pc (by omega))]
    case hw => exact hq.2
    unfold fX7_keepFace_J43
    have bad : ∃ (res : (Nat ⊕ Int32) × OX6) (res2 : Int32 × OX7), (some (Sum.inl 0, o) : Option ((Nat ⊕ Int32) × OX6)) = some res ∧ fX7_keepFace_J44 r (nI k0) (nI (okI (nI k0) (nf n m F)).toNat, q) (0, s7_isLaid (s7_faceMany (s7_placeOf (s7_rankOf (s7_faces (s7_closed (s7_thrown r 0) (q7_closed q)) (q7_faces q)) (q7_rankOf q)) (q7_placeOf q)) (q7_faceMany q)) (q7_isLaid q)) 0 = some res2 ∧ (∀ k, res.1 = .inl k → k = 2 ∨ k = 0) ∧ q7_thrown (mh_keepFace r res2.2) = hcd [2, 0] res.1 ∧ (∀ v, res.1 = .inr v → res2.1 = v) ∧ Rel (mg_keepFace o res.2) (mh_keepFace r res2.2) := by
      unfold fX7_keepFace_J44
      rw [eX7_fails_0, Option.bind_some]
      exact ⟨(.inl 0, _), _, rfl, if_neg n10, sk_il (Or.inr rfl), hc_20.2.symm, sk_vl, n, m, F, hv, hi, hl, hN, Or.inr hq, hH, hS, hT⟩
    by_cases g0 : fa n m F k0 = 0
    · rw [if_pos g0, if_pos g0]
      exact bad
    · rw [if_neg g0, if_neg g0]
      by_cases g2 : K ≤ 10
      · rw [if_pos (show nI K ≤ 10 from nI_le (b := 10) g2 (by omega)), if_neg (show ¬ (10 : Int32) < nI K from nI_nlt (a := 10) g2 (by omega))]
        have lK : ∀ k, k < nf n m F → cvB n m F (fa n m F k) (fa n m F k0) = true → (kfL n m F (fa n m F k0) k).length < 10 := fun k hk hb => by
          have h2 : (kfL n m F (fa n m F k0) k).length < K := by
            unfold kfL
            rw [fm_len, ← hK]
            exact cnt_lt hk hb
          omega
        have hv' : IncV (pc (fa n m F k0)) (kfL n m F (fa n m F k0) (nf n m F)).length (fnL (kfL n m F (fa n m F k0) (nf n m F))) := incVL (pc_pos (by omega) g0) hpc8 (by unfold kfL; rw [fm_len, hK]; exact g2) fun s hs => by
          obtain ⟨j, j1, _, rfl⟩ := mem_fm hs
          exact rn_lt _ _
        have es : ∀ k, kfL n m F (fa n m F k0) (k + 1) = if cvB n m F (fa n m F k) (fa n m F k0) = true then kfL n m F (fa n m F k0) k ++ [rn (fa n m F k) (fa n m F k0)] else kfL n m F (fa n m F k0) k := fun k => fm_s _ _ k
        have c6 : ∃ res, ((fX2_clear (q6_next o) (nI (pc (fa n m F k0)))).bind fun r12 => lp (fX6_keepFace_L54 o (nI k0) r12) lpN (0, (q2_facets r12), (q2_sets (q6_next o)))) = some res ∧ res.1 = .inr (nI (kfL n m F (fa n m F k0) (nf n m F)).length) ∧ ClsN (pc (fa n m F k0)) (kfL n m F (fa n m F k0) (nf n m F)).length (fnL (kfL n m F (fa n m F k0) (nf n m F))) (hcn c) (hdn c d) (hHn c H (n, m, F)) res.2 := by
          rw [show fX2_clear (q6_next o) (nI (pc (fa n m F k0))) = some (s2_facets (s2_points (q6_next o) (nI (pc (fa n m F k0)))) 0) from rfl, Option.bind_some]
          refine lp_inv (fun k v => v.1 = nI k ∧ IncL (pc (fa n m F k0)) (kfL n m F (fa n m F k0) k) (v.2.2, nI (pc (fa n m F k0)), v.2.1)) _ (nf n m F) ?_ (fun k v hk hI => Or.inl ?_) (fun v hI => ?_) (lpN_gt (by omega))
          · exact ⟨rfl, incL_0 _ _⟩
          · obtain ⟨vk, vf, vs⟩ := v
            obtain ⟨h1, h2⟩ := hI
            dsimp only at h1 h2
            subst h1
            have hok : okI (nI k) 256 = true := p_ok (by omega) (by decide)
            have hfk := (fa_fc (m := m) (F := F) hn hk).1
            unfold fX6_keepFace_L54
            dsimp only
            rw [hl.sz, if_neg (nI_ge hk (by omega)), ck_t hok, hl.2.2.1.f hk hnf, hl.2.2.1.f hk0 hnf, bd_s (eX3_isCover hn hl.1.1 hl.cl fS1 hfk), p_s1, es]
            rcases bool_ft (cvB n m F (fa n m F k) (fa n m F k0)) with b | b
            · rw [if0_f b, if_bf b]
              exact ⟨_, rfl, rfl, h2⟩
            · obtain ⟨z, z1, z2⟩ := eX2_addL h2 (lK k hk b) (rn (fa n m F k) (fa n m F k0))
              rw [if0_t b, if_pos b, ck_t hok, bd_s (eX2_renumbered (by omega) (by omega)), show q2_points (s2_facets (s2_points (q6_next o) (nI (pc (fa n m F k0)))) 0) = nI (pc (fa n m F k0)) from rfl, bd_s z1]
              exact ⟨_, rfl, rfl, rfl, z2.2.1, z2.2.2⟩
          · obtain ⟨vk, vf, vs⟩ := v
            obtain ⟨h1, h2⟩ := hI
            dsimp only at h1 h2
            subst h1
            obtain ⟨z, c1, c2⟩ := eX6_change (o := ((q6_text o), (q6_history o), (q6_lattice o), (q6_graph o), (q6_matching o), (q6_now o), (q6_saved o), (vs, nI (pc (fa n m F k0)), vf), (q6_hasSaved o))) hc hd hA hv hi hv' h2
            unfold fX6_keepFace_L54
            dsimp only
            rw [hl.sz, if_pos (nI_le (Nat.le_refl _) (by omega)), show q2_points (s2_facets (s2_points (q6_next o) (nI (pc (fa n m F k0)))) 0) = nI (pc (fa n m F k0)) from rfl, bd_s c1]
            exact ⟨_, rfl, congrArg Sum.inr c2.1.2.1, c2.up _ _ _ _ _ _ _ _⟩
        have c7 : ∃ res, fX7_keepFace_J44 r (nI k0) (nI (okI (nI k0) (nf n m F)).toNat, q) (0, s7_isLaid (s7_faceMany (s7_placeOf (s7_rankOf (s7_faces (s7_closed (s7_thrown r 0) (q7_closed q)) (q7_faces q)) (q7_rankOf q)) (q7_placeOf q)) (q7_faceMany q)) (q7_isLaid q)) 1 = some res ∧ q7_thrown res.2 = 0 ∧ res.1 = nI (kfL n m F (fa n m F k0) (nf n m F)).length ∧ RefN (pc (fa n m F k0)) (kfL n m F (fa n m F k0) (nf n m F)).length (fnL (kfL n m F (fa n m F k0) (nf n m F))) (hcn c) (hHn c H (n, m, F)) res.2 := by
          unfold fX7_keepFace_J44
          rw [eX7_fails_1, Option.bind_some]
          dsimp only
          rw [if_pos (rfl : (0 : Int32) = 0)]
          refine bd_ex (eX7_record hc (hi_V hA) (by exact hB) (by exact hE) hm (by exact hN)) (fun w hw => ?_)
          obtain ⟨w2, w3, w4⟩ := hw
          rw [ck_t hok0, hq.2.2.2.f hk0 hnf, bd_s (eX7_bits (by omega))]
          refine bd_ex (eX7_beginE _ (pc (fa n m F k0))) (fun g g2 => ?_)
          refine lp_inv (fun k v => v.1 = nI k ∧ MadeL (pc (fa n m F k0)) (kfL n m F (fa n m F k0) k) v.2) _ (nf n m F) ?_ (fun k v hk hI => Or.inl ?_) (fun v hI => ?_) (lpN_gt (by omega))
          · exact ⟨rfl, g2⟩
          · obtain ⟨vk, vg⟩ := v
            obtain ⟨h1, h2⟩ := hI
            dsimp only at h1 h2
            subst h1
            have hfk := (fa_fc (m := m) (F := F) hn hk).1
            unfold fX7_keepFace_L72
            dsimp only
            rw [if_neg (by rw [hfm]; exact nI_ge hk (by omega)), bd_s (eX7_covers hn ?hlaid hk0 hk), p_s1, es]
            case hlaid => exact hq.2
            rcases bool_ft (cvB n m F (fa n m F k) (fa n m F k0)) with b | b
            · rw [if0_f b, if_bf b]
              exact ⟨_, rfl, rfl, h2⟩
            · rw [if0_t b, if_pos b, ck_t (p_ok (by omega) (by decide)), ck_t hok0, hq.2.2.2.f hk hnf, hq.2.2.2.f hk0 hnf, bd_s (eX7_within (by omega) (by omega))]
              exact bd_in (eX7_addE (by exact h2) (lK k hk b) (rn (fa n m F k) (fa n m F k0))) (fun z hz => ⟨_, rfl, rfl, hz⟩)
          · obtain ⟨vk, vg⟩ := v
            obtain ⟨h1, h2⟩ := hI
            dsimp only at h1 h2
            subst h1
            unfold fX7_keepFace_L72
            dsimp only
            rw [if_pos (by rw [hfm]; exact nI_le (Nat.le_refl _) (by omega))]
            refine ex_ex (bd_ex (eX7_takeMade hv'.2.2.1 (by exact h2)) (fun y hy => ?_))
            exact ⟨_, rfl, rfl, hy.1.m, hy.1, Or.inl hy.2, w4, w2⟩
        obtain ⟨⟨a1, z⟩, k1, k2, k3⟩ := c6
        obtain ⟨⟨b1, w⟩, k4, k5, k6, k7⟩ := c7
        dsimp only at k2 k3 k5 k6 k7
        subst k2 k6
        exact ⟨_, _, k1, k4, sk_ir, k5, sk_vr rfl, Rel_of (hcn_8 hc) (hdn_8 hd) hv' k3 k7 hS hT⟩
      · rw [if_neg (show ¬ nI K ≤ 10 from nI_ge (a := 10) (by omega) (by omega)), if_pos (show (10 : Int32) < nI K from nI_lt (a := 10) (by omega) (by omega))]
        exact bad
end KF

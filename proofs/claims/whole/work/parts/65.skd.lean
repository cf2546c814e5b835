/-! incidences made as lists; dual, pyramid: the calls -/
def IncL (n : Nat) (L : List Nat) (y : OX2) : Prop := IncR n L.length (fun i => L.getD i 0) y
def MadeL (n : Nat) (L : List Nat) (g : Nat → Int32) : Prop := NowR n L.length (fun i => L.getD i 0) g
theorem up1_app (L : List Nat) (s : Nat) {f : Nat} (hf : f < L.length + 1) : up1 (fun i => L.getD i 0) L.length s f = (L ++ [s]).getD f 0 := by
  by_cases e : f = L.length
  · rw [e, up1_at, getD_e]
  · rw [up1_ne _ _ e, getD_l L s (by omega)]
theorem eX2_addL {n : Nat} {L : List Nat} {y : OX2} (h : IncL n L y) (hl : L.length < 10) (s : Nat) : ∃ z, fX2_add y (nI s) = some z ∧ IncL n (L ++ [s]) z := by
  obtain ⟨z, z1, z2⟩ := eX2_add h hl s
  refine ⟨z, z1, z2.1, ?_, fun f hf => ?_⟩
  · rw [List.length_append]; exact z2.2.1
  · rw [List.length_append] at hf
    rw [z2.2.2 f hf, up1_app L s hf]
theorem eX7_addL {n : Nat} {L : List Nat} {o : OX7} (h : MadeL n L (q7_made o)) (hl : L.length < 10) (s : Nat) : ∃ g, fX7_add o (nI s) = some (s7_made o g) ∧ MadeL n (L ++ [s]) g := by
  have h2 := NowR.addf h s
  unfold fX7_add
  rw [h.m, p_2a, ck_t (p_ok (by omega) (by decide)), p_ix (by omega), p_ix1, upd_ne _ _ (show 1 ≠ 2 + L.length by omega), h.2.1, p_s1]
  refine ⟨_, rfl, h2.1, ?_, fun f hf => ?_⟩
  · rw [List.length_append]; exact h2.2.1
  · rw [List.length_append] at hf
    rw [h2.2.2 f hf, up1_app L s hf]
theorem eX7_beginL (o : OX7) (n : Nat) : ∃ g, fX7_begin o (nI n) = some (s7_made o g) ∧ MadeL n [] g := by
  refine ⟨_, rfl, ?_, ?_, fun f hf => absurd hf (Nat.not_lt_zero f)⟩
  · rw [p_ix0, p_ix1]; exact (upd_ne _ _ (by decide)).trans (upd_at _ _ _)
  · rw [p_ix1]; exact upd_at _ _ _
theorem incVL {n : Nat} {L : List Nat} (h1 : 1 ≤ n) (h2 : n ≤ 8) (h3 : L.length ≤ 10) (h4 : ∀ s, s ∈ L → s < 2 ^ n) : IncV n L.length (fun i => L.getD i 0) := ⟨h1, h2, h3, fun f hf => h4 _ (getD_mem hf)⟩
theorem incL_0 (n : Nat) (g : Nat → Int32) : IncL n [] (g, nI n, 0) := ⟨rfl, rfl, fun f hf => absurd hf (Nat.not_lt_zero f)⟩
theorem map_s {α : Type} (f : Nat → α) (k : Nat) : (List.range (k + 1)).map f = (List.range k).map f ++ [f k] := by
  rw [List.range_succ, List.map_append]; rfl
theorem eX7_faceManyNow {n m : Nat} {F : Nat → Nat} {o : OX7} (hv : IncV n m F) (hN : NowR n m F (q7_now o)) (hL : q7_isLaid o = 0 ∨ LdR n m F o) : ∃ q, fX7_faceManyNow o = some (nI (nf n m F), q) ∧ LdR n m F q := by
  obtain ⟨q, e, hq⟩ := eX7_lay hv hN hL
  unfold fX7_faceManyNow
  rw [bd_s e, show q7_faceMany q = nI (nf n m F) from hq.2.2.2.1]
  exact ⟨_, rfl, hq.1, hq.2.1, hq.2.2.1, rfl, hq.2.2.2.2⟩
theorem eX7_inab {k a b : Nat} (hk : k < 2147483648) (ha : a < 2147483648) (hb : b < 2147483648) : fX7_in (nI k) (nI a) (nI b) = some (nI (decide (a ≤ k ∧ k ≤ b)).toNat) := by
  unfold fX7_in
  by_cases h1 : k < a
  · rw [if_pos (by rw [p_lt hk ha]; exact h1), decide_eq_false (by omega)]; rfl
  · rw [if_neg (by rw [p_lt hk ha]; exact h1)]
    by_cases h2 : b < k
    · rw [if_pos (by rw [p_lt hb hk]; exact h2), decide_eq_false (by omega)]; rfl
    · rw [if_neg (by rw [p_lt hb hk]; exact h2), decide_eq_true (by omega)]; rfl
section SD
variable {n m : Nat} {F : Nat → Nat}
theorem eX7_facetsWith {o : OX7} (hv : IncV n m F) (hN : NowR n m F (q7_now o)) {p : Nat} (hp : p < n) : fX7_facetsWith o (nI p) = some (nI (hold F p m)) := by
  have hn := hv.2.1
  have hm := hv.2.2.1
  unfold fX7_facetsWith
  refine lp_cnt (fun k h => (nI h, nI k)) (fun t h => if (F t).testBit p then h ||| 2 ^ t else h) 0 m (fun _ _ => True) trivial (fun t h ht _ => ⟨?_, trivial⟩) (fun _ => ?_) (lpN_gt (by omega))
  · unfold fX7_facetsWith_L4
    dsimp only
    have hf := hv.lt ht
    rw [hN.m, hN.f ht hm, if_neg (nI_ge ht (by omega)), ck_t (ok12 (by omega)), bd_s (eX7_has (by omega) (by omega)), p_s1, p_shl1 (by omega), p_or]
    cases g : (F t).testBit p
    · rw [if0_f rfl, if_neg Bool.false_ne_true, Int32.or_zero]
    · rfl
  · unfold fX7_facetsWith_L4
    dsimp only
    rw [hN.m, if_pos (nI_le (Nat.le_refl m) (by omega))]
    rfl
variable {o : OX6} {r : OX7}
/-- a change's end, out of what both sides have become -/
theorem Rel_of {n' m' : Nat} {F' : Nat → Nat} {c d : Nat} {H : Nat → Nat × Nat × (Nat → Nat)} (hc : c ≤ 8) (hd : d < 8) (hv : IncV n' m' F') {z : OX6} {w : OX7} (C : ClsN n' m' F' c d H z) (R : RefN n' m' F' c H w) (hS : SvR (q6_hasSaved z) (q6_saved z) (q7_isSaved w) (q7_saved w)) (hT : TxR (q6_text z) (q7_buffer w) (q7_length w)) : Rel z w := ⟨n', m', F', hv, C.1, C.2.1, R.1, R.2.1, HiR_of hc hd C.2.2 R.2.2.1 R.2.2.2, hS, hT⟩
theorem sk_7 (h : Rel o r) : SK_7 Rel o r := by
  obtain ⟨n, m, F, hv, hi, hl, hN, hL, hH, hS, hT⟩ := h
  obtain ⟨c, d, H, hc, hd, hA, hB, hE⟩ := HiR_to hH
  have hn := hv.2.1
  have hm := hv.2.2.1
  unfold SK_7
  by_cases hm1 : 1 ≤ m ∧ m ≤ 8
  · have hv' : IncV m ((List.range n).map fun p => hold F p m).length (fun i => ((List.range n).map fun p => hold F p m).getD i 0) := incVL hm1.1 hm1.2 (by rw [List.length_map, List.length_range]; omega) fun s hs => by
      obtain ⟨p, _, rfl⟩ := List.mem_map.mp hs
      exact hold_lt F p m
    have c6 : ∃ res, fX6_dual o = some res ∧ res.1 = .inr (nI (nf m ((List.range n).map fun p => hold F p m).length (fun i => ((List.range n).map fun p => hold F p m).getD i 0))) ∧ ClsN m ((List.range n).map fun p => hold F p m).length (fun i => ((List.range n).map fun p => hold F p m).getD i 0) (hcn c) (hdn c d) (hHn c H (n, m, F)) res.2 := by
      unfold fX6_dual
      rw [hi.2.1, if_neg (show ¬ nI m < 1 from nI_nlt (b := 1) hm1.1 (by omega)), if_pos (show nI m ≤ 8 from nI_le (b := 8) hm1.2 (by omega)), show fX2_clear (q6_next o) (nI m) = some (s2_facets (s2_points (q6_next o) (nI m)) 0) from rfl, Option.bind_some]
      refine lp_inv (fun k v => v.1 = nI k ∧ IncL m ((List.range k).map fun p => hold F p m) (v.2.2, nI m, v.2.1)) _ n ?_ (fun k v hk hI => Or.inl ?_) (fun v hI => ?_) (lpN_gt (by omega))
      · exact ⟨rfl, incL_0 m _⟩
      · obtain ⟨vk, vf, vs⟩ := v
        obtain ⟨h1, h2⟩ := hI
        dsimp only at h1 h2
        subst h1
        obtain ⟨z, z1, z2⟩ := eX2_addL h2 (by rw [List.length_map, List.length_range]; omega) (hold F k m)
        unfold fX6_dual_L47
        dsimp only
        rw [hi.1, if_neg (nI_ge hk (by omega)), bd_s (eX2_holders hi hv (by omega)), show q2_points (s2_facets (s2_points (q6_next o) (nI m)) 0) = nI m from rfl, bd_s z1]
        refine ⟨_, rfl, p_s1 k, ?_⟩
        rw [map_s]
        exact ⟨rfl, z2.2.1, z2.2.2⟩
      · obtain ⟨vk, vf, vs⟩ := v
        obtain ⟨h1, h2⟩ := hI
        dsimp only at h1 h2
        subst h1
        unfold fX6_dual_L47
        dsimp only
        obtain ⟨z, c1, c2⟩ := eX6_change (o := ((q6_text o), (q6_history o), (q6_lattice o), (q6_graph o), (q6_matching o), (q6_now o), (q6_saved o), (vs, nI m, vf), (q6_hasSaved o))) hc hd hA hv hi hv' h2
        rw [hi.1, if_pos (nI_le (Nat.le_refl n) (by omega)), show q2_points (s2_facets (s2_points (q6_next o) (nI m)) 0) = nI m from rfl, bd_s c1]
        exact ⟨_, rfl, congrArg Sum.inr c2.2.1.sz, c2.up _ _ _ _ _ _ _ _⟩
    have c7 : ∃ res, fX7_dual r = some res ∧ q7_thrown res.2 = 0 ∧ res.1 = nI (nf m ((List.range n).map fun p => hold F p m).length (fun i => ((List.range n).map fun p => hold F p m).getD i 0)) ∧ RefN m ((List.range n).map fun p => hold F p m).length (fun i => ((List.range n).map fun p => hold F p m).getD i 0) (hcn c) (hHn c H (n, m, F)) res.2 := by
      obtain ⟨w, w1, w2, w3, w4⟩ := eX7_record (o := s7_thrown r (q7_thrown (s7_thrown r 0))) hc (hi_V hA) hB hE hm hN
      obtain ⟨g, g1, g2⟩ := eX7_beginL (s7_isLaid (s7_entries (s7_history (s7_thrown r (q7_thrown (s7_thrown r 0))) (q7_history w)) (q7_entries w)) (q7_isLaid w)) m
      unfold fX7_dual
      rw [hN.m, show (1 : Int32) = nI 1 from rfl, show (8 : Int32) = nI 8 from rfl, bd_s (eX7_inab (by omega) (by decide) (by decide)), decide_eq_true hm1, bd_s (eX7_fails_t _ (b := true) rfl _)]
      dsimp only
      rw [if_pos (rfl : (0 : Int32) = 0), bd_s w1, bd_s g1]
      refine lp_inv (fun k v => v.1 = nI k ∧ MadeL m ((List.range k).map fun p => hold F p m) v.2) _ n ?_ (fun k v hk hI => Or.inl ?_) (fun v hI => ?_) (lpN_gt (by omega))
      · exact ⟨rfl, g2⟩
      · obtain ⟨vk, vg⟩ := v
        obtain ⟨h1, h2⟩ := hI
        dsimp only at h1 h2
        subst h1
        unfold fX7_dual_L43
        dsimp only
        obtain ⟨y, y1, y2⟩ := eX7_addL (o := s7_isLaid (s7_entries (s7_history (s7_made (s7_thrown r (q7_thrown (s7_thrown r 0))) vg) (q7_history w)) (q7_entries w)) (q7_isLaid w)) h2 (by rw [List.length_map, List.length_range]; omega) (hold F k m)
        rw [hN.n, if_neg (nI_ge hk (by omega)), bd_s (eX7_facetsWith hv ?hnow hk), bd_s y1]
        case hnow => exact hN
        refine ⟨_, rfl, p_s1 k, ?_⟩
        rw [map_s]
        exact y2
      · obtain ⟨vk, vg⟩ := v
        obtain ⟨h1, h2⟩ := hI
        dsimp only at h1 h2
        subst h1
        unfold fX7_dual_L43
        dsimp only
        obtain ⟨y, y1, y2, y3⟩ := eX7_takeMade (o := s7_isLaid (s7_entries (s7_history (s7_made (s7_thrown r (q7_thrown (s7_thrown r 0))) vg) (q7_history w)) (q7_entries w)) (q7_isLaid w)) hv'.2.2.1 h2
        obtain ⟨q, q1, q2⟩ := eX7_faceManyNow (o := s7_isLaid (s7_entries (s7_history (s7_made (s7_now (s7_thrown r (q7_thrown (s7_thrown r 0))) (q7_now y)) vg) (q7_history w)) (q7_entries w)) (q7_isLaid y)) hv' y2 (Or.inl y3)
        rw [hN.n, if_pos (nI_le (Nat.le_refl n) (by omega)), bd_s y1, bd_s q1]
        exact ⟨_, rfl, rfl, rfl, y2, Or.inr q2, w4, w2⟩
    obtain ⟨⟨a1, z⟩, k1, k2, k3⟩ := c6
    obtain ⟨⟨b1, w⟩, k4, k5, k6, k7⟩ := c7
    dsimp only at k2 k3 k5 k6 k7
    subst k2 k6
    exact ⟨_, _, k1, k4, sk_ir, k5, sk_vr rfl, Rel_of (hcn_8 hc) (hdn_8 hd) hv' k3 k7 hS hT⟩
  · have e6 : fX6_dual o = some (.inl 0, o) := by
      unfold fX6_dual
      rw [hi.2.1]
      by_cases q : m < 1
      · rw [if_pos (show nI m < 1 from nI_lt (b := 1) q (by omega))]
      · rw [if_neg (show ¬ nI m < 1 from nI_nlt (b := 1) (by omega) (by omega)), if_neg (show ¬ nI m ≤ 8 from nI_ge (a := 8) (by omega) (by omega))]
    have e7 : fX7_dual r = some (0, s7_thrown r 1) := by
      unfold fX7_dual
      rw [hN.m, show (1 : Int32) = nI 1 from rfl, show (8 : Int32) = nI 8 from rfl, bd_s (eX7_inab (by omega) (by decide) (by decide)), decide_eq_false hm1, bd_s (eX7_fails_f _ (b := false) rfl _)]
      rfl
    exact ⟨_, _, e6, e7, sk_il rfl, hc_0.symm, sk_vl, n, m, F, hv, hi, hl, hN, hL, hH, hS, hT⟩
end SD

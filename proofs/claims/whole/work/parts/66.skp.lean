/-! pyramid, stack: the calls -/
theorem bd_ex {α β : Type} {x : Option α} {k : α → Option β} {P : α → Prop} {Q : β → Prop} (h : ∃ r, x = some r ∧ P r) (g : ∀ r, P r → ∃ y, k r = some y ∧ Q y) : ∃ y, x.bind k = some y ∧ Q y := by
  obtain ⟨r, rfl, h2⟩ := h
  exact g r h2
theorem bd_in {α σ τ : Type} {x : Option α} {k : α → Option (σ ⊕ τ)} {P : α → Prop} {I : σ → Prop} (h : ∃ r, x = some r ∧ P r) (g : ∀ r, P r → ∃ s', k r = some (.inl s') ∧ I s') : ∃ s', x.bind k = some (.inl s') ∧ I s' := by
  obtain ⟨r, rfl, h2⟩ := h
  exact g r h2
theorem ex_ex {σ τ : Type} {x : Option τ} {Q : τ → Prop} (h : ∃ y, x = some y ∧ Q y) : ∃ r, (ex x : Option (σ ⊕ τ)) = some (.inr r) ∧ Q r := by
  obtain ⟨r, rfl, h2⟩ := h
  exact ⟨r, rfl, h2⟩
theorem eX7_addE {n : Nat} {L : List Nat} {o : OX7} (h : MadeL n L (q7_made o)) (hl : L.length < 10) (s : Nat) : ∃ z, fX7_add o (nI s) = some z ∧ MadeL n (L ++ [s]) (q7_made z) := by
  obtain ⟨g, g1, g2⟩ := eX7_addL h hl s
  exact ⟨_, g1, g2⟩
theorem eX7_beginE (o : OX7) (n : Nat) : ∃ z, fX7_begin o (nI n) = some z ∧ MadeL n [] (q7_made z) := by
  obtain ⟨g, g1, g2⟩ := eX7_beginL o n
  exact ⟨_, g1, g2⟩
def fnL (L : List Nat) : Nat → Nat := fun i => L.getD i 0
section SP6
variable {n m : Nat} {F : Nat → Nat}
def pyM (n : Nat) (F : Nat → Nat) (k : Nat) : List Nat := (List.range k).map fun f => F f ||| 2 ^ n
def pyL (n m : Nat) (F : Nat → Nat) : List Nat := pyM n F m ++ [2 ^ n - 1]
theorem pyM_len (k : Nat) : (pyM n F k).length = k := by unfold pyM; rw [List.length_map, List.length_range]
theorem pyM_s (k : Nat) : pyM n F (k + 1) = pyM n F k ++ [F k ||| 2 ^ n] := map_s _ k
theorem or_up {s k : Nat} (h : s < 2 ^ k) : s ||| 2 ^ k < 2 ^ (k + 1) := Nat.or_lt_two_pow (Nat.lt_of_lt_of_le h (p2_lt (Nat.le_succ k))) (Nat.pow_lt_pow_right (by decide) (Nat.lt_succ_self k))
theorem facet_fc (hv : IncV n m F) {f : Nat} (hf : f < m) : Fc n m F (F f) := ⟨hv.2.2.2 f hf, Sb.as (fun i hi => ((tb_cl n m F (F f) i).mp hi).2 f hf (Sb.rf (F f)).d) (cl_ext n m F (hv.2.2.2 f hf))⟩
variable {o : OX6} {r : OX7}
theorem sk_8 (h : Rel o r) : SK_8 Rel o r := by
  obtain ⟨n, m, F, hv, hi, hl, hN, hL, hH, hS, hT⟩ := h
  obtain ⟨c, d, H, hc, hd, hA, hB, hE⟩ := HiR_to hH
  have hn := hv.2.1
  have h8 := p2_256 hn
  have hp := p2_pos n
  have hm := hv.2.2.1
  unfold SK_8
  by_cases hg : n < 8 ∧ m < 10
  · have hv' : IncV (n + 1) (pyL n m F).length (fnL (pyL n m F)) := incVL (by omega) (by omega) (by unfold pyL; rw [List.length_append, pyM_len, List.length_singleton]; omega) fun s hs => by
      have hlt : 2 ^ n < 2 ^ (n + 1) := Nat.pow_lt_pow_right (by decide) (Nat.lt_succ_self n)
      unfold pyL pyM at hs
      rcases List.mem_append.mp hs with q | q
      · obtain ⟨f, hf, rfl⟩ := List.mem_map.mp q
        exact or_up (hv.2.2.2 f (List.mem_range.mp hf))
      · rw [List.mem_singleton] at q
        omega
    have c6 : ∃ res, fX6_pyramid o = some res ∧ res.1 = .inr (nI (nf (n + 1) (pyL n m F).length (fnL (pyL n m F)))) ∧ ClsN (n + 1) (pyL n m F).length (fnL (pyL n m F)) (hcn c) (hdn c d) (hHn c H (n, m, F)) res.2 := by
      unfold fX6_pyramid
      rw [hi.1, hi.2.1, if_neg (show ¬ (8 : Int32) ≤ nI n from nI_ge (b := 8) hg.1 (by omega)), if_pos (show nI m < 10 from nI_lt (b := 10) hg.2 (by omega)), p_s1, show fX2_clear (q6_next o) (nI (n + 1)) = some (s2_facets (s2_points (q6_next o) (nI (n + 1))) 0) from rfl, Option.bind_some]
      refine lp_inv (fun k v => v.1 = nI k ∧ IncL (n + 1) (pyM n F k) (v.2.2, nI (n + 1), v.2.1)) _ m ?_ (fun k v hk hI => Or.inl ?_) (fun v hI => ?_) (lpN_gt (by omega))
      · exact ⟨rfl, incL_0 (n + 1) _⟩
      · obtain ⟨vk, vf, vs⟩ := v
        obtain ⟨h1, h2⟩ := hI
        dsimp only at h1 h2
        subst h1
        obtain ⟨z, z1, z2⟩ := eX2_addL h2 (by rw [pyM_len]; omega) (F k ||| 2 ^ n)
        unfold fX6_pyramid_L60
        dsimp only
        rw [hi.2.1, if_neg (nI_ge hk (by omega)), ck_t (p_ok (by omega) (by decide)), p_ix (by omega), hi.2.2 k hk, hi.1, p_shl1 (by omega), p_or, show q2_points (s2_facets (s2_points (q6_next o) (nI (n + 1))) 0) = nI (n + 1) from rfl, bd_s z1]
        refine ⟨_, rfl, p_s1 k, ?_⟩
        rw [pyM_s]
        exact ⟨rfl, z2.2.1, z2.2.2⟩
      · obtain ⟨vk, vf, vs⟩ := v
        obtain ⟨h1, h2⟩ := hI
        dsimp only at h1 h2
        subst h1
        obtain ⟨z, z1, z2⟩ := eX2_addL h2 (by rw [pyM_len]; omega) (2 ^ n - 1)
        obtain ⟨w, c1, c2⟩ := eX6_change (o := ((q6_text o), (q6_history o), (q6_lattice o), (q6_graph o), (q6_matching o), (q6_now o), (q6_saved o), ((q2_sets z), nI (n + 1), (q2_facets z)), (q6_hasSaved o))) hc hd hA hv hi hv' ⟨rfl, z2.2.1, z2.2.2⟩
        unfold fX6_pyramid_L60
        dsimp only
        rw [hi.2.1, if_pos (nI_le (Nat.le_refl m) (by omega)), bd_s (eX2_allPoints hn hi.1), show q2_points (s2_facets (s2_points (q6_next o) (nI (n + 1))) 0) = nI (n + 1) from rfl, bd_s z1, bd_s c1]
        exact ⟨_, rfl, congrArg Sum.inr c2.2.1.sz, c2.up _ _ _ _ _ _ _ _⟩
    have c7 : ∃ res, fX7_pyramid r = some res ∧ q7_thrown res.2 = 0 ∧ res.1 = nI (nf (n + 1) (pyL n m F).length (fnL (pyL n m F))) ∧ RefN (n + 1) (pyL n m F).length (fnL (pyL n m F)) (hcn c) (hHn c H (n, m, F)) res.2 := by
      obtain ⟨w, w1, w2, w3, w4⟩ := eX7_record (o := s7_thrown r (q7_thrown (s7_thrown r 0))) hc (hi_V hA) hB hE hm hN
      obtain ⟨g, g1, g2⟩ := eX7_beginL (s7_isLaid (s7_entries (s7_history (s7_thrown r (q7_thrown (s7_thrown r 0))) (q7_history w)) (q7_entries w)) (q7_isLaid w)) (n + 1)
      unfold fX7_pyramid fX7_pyramid_J33
      rw [hN.n, hN.m, if_neg (show ¬ (8 : Int32) ≤ nI n from nI_ge (b := 8) hg.1 (by omega)), if_neg (show ¬ (10 : Int32) ≤ nI m from nI_ge (b := 10) hg.2 (by omega)), eX7_fails_1, Option.bind_some]
      dsimp only
      rw [if_pos (rfl : (0 : Int32) = 0), bd_s w1, p_s1, bd_s g1]
      refine lp_inv (fun k v => v.1 = nI k ∧ MadeL (n + 1) (pyM n F k) v.2) _ m ?_ (fun k v hk hI => Or.inl ?_) (fun v hI => ?_) (lpN_gt (by omega))
      · exact ⟨rfl, g2⟩
      · obtain ⟨vk, vg⟩ := v
        obtain ⟨h1, h2⟩ := hI
        dsimp only at h1 h2
        subst h1
        unfold fX7_pyramid_L60
        dsimp only
        obtain ⟨y, y1, y2⟩ := eX7_addL (o := s7_isLaid (s7_entries (s7_history (s7_made (s7_thrown r (q7_thrown (s7_thrown r 0))) vg) (q7_history w)) (q7_entries w)) (q7_isLaid w)) h2 (by rw [pyM_len]; omega) (F k ||| 2 ^ n)
        rw [hN.m, if_neg (nI_ge hk (by omega)), ck_t (ok12 (by omega)), hN.f hk hm, hN.n, p_shl1 (by omega), p_or, bd_s y1]
        refine ⟨_, rfl, p_s1 k, ?_⟩
        rw [pyM_s]
        exact y2
      · obtain ⟨vk, vg⟩ := v
        obtain ⟨h1, h2⟩ := hI
        dsimp only at h1 h2
        subst h1
        unfold fX7_pyramid_L60
        dsimp only
        obtain ⟨x, x1, x2⟩ := eX7_addL (o := s7_isLaid (s7_entries (s7_history (s7_made (s7_thrown r (q7_thrown (s7_thrown r 0))) vg) (q7_history w)) (q7_entries w)) (q7_isLaid w)) h2 (by rw [pyM_len]; omega) (2 ^ n - 1)
        obtain ⟨y, y1, y2, y3⟩ := eX7_takeMade (o := s7_isLaid (s7_entries (s7_history (s7_made (s7_thrown r (q7_thrown (s7_thrown r 0))) x) (q7_history w)) (q7_entries w)) (q7_isLaid w)) hv'.2.2.1 x2
        obtain ⟨q, q1, q2⟩ := eX7_faceManyNow (o := s7_isLaid (s7_entries (s7_history (s7_made (s7_now (s7_thrown r (q7_thrown (s7_thrown r 0))) (q7_now y)) x) (q7_history w)) (q7_entries w)) (q7_isLaid y)) hv' y2 (Or.inl y3)
        rw [hN.m, if_pos (nI_le (Nat.le_refl m) (by omega)), bd_s (eX7_all hn ?hnow), bd_s x1]
        case hnow => exact hN
        rw [bd_s y1, bd_s q1]
        exact ⟨_, rfl, rfl, rfl, y2, Or.inr q2, w4, w2⟩
    obtain ⟨⟨a1, z⟩, k1, k2, k3⟩ := c6
    obtain ⟨⟨b1, w⟩, k4, k5, k6, k7⟩ := c7
    dsimp only at k2 k3 k5 k6 k7
    subst k2 k6
    exact ⟨_, _, k1, k4, sk_ir, k5, sk_vr rfl, Rel_of (hcn_8 hc) (hdn_8 hd) hv' k3 k7 hS hT⟩
  · have e6 : fX6_pyramid o = some (.inl 0, o) := by
      unfold fX6_pyramid
      rw [hi.1, hi.2.1]
      by_cases q : n < 8
      · rw [if_neg (show ¬ (8 : Int32) ≤ nI n from nI_ge (b := 8) q (by omega)), if_neg (show ¬ nI m < 10 from nI_nlt (b := 10) (by omega) (by omega))]
      · rw [if_pos (show (8 : Int32) ≤ nI n from nI_le (a := 8) (by omega) (by omega))]
    have e7 : fX7_pyramid r = some (0, s7_thrown r 1) := by
      unfold fX7_pyramid fX7_pyramid_J32 fX7_pyramid_J33
      rw [hN.n, hN.m]
      by_cases q : n < 8
      · rw [if_neg (show ¬ (8 : Int32) ≤ nI n from nI_ge (b := 8) q (by omega)), if_pos (show (10 : Int32) ≤ nI m from nI_le (a := 10) (by omega) (by omega)), eX7_fails_0]
        rfl
      · rw [if_pos (show (8 : Int32) ≤ nI n from nI_le (a := 8) (by omega) (by omega)), eX7_fails_0]
        rfl
    exact ⟨_, _, e6, e7, sk_il rfl, hc_0.symm, sk_vl, n, m, F, hv, hi, hl, hN, hL, hH, hS, hT⟩
/-- those k with P, through g -/
def fm (P : Nat → Bool) (g : Nat → Nat) (k : Nat) : List Nat := ((List.range k).filter P).map g
theorem fm_s (P : Nat → Bool) (g : Nat → Nat) (k : Nat) : fm P g (k + 1) = if P k = true then fm P g k ++ [g k] else fm P g k := by
  unfold fm
  rw [List.range_succ, List.filter_append, List.map_append]
  by_cases h : P k = true
  · rw [if_pos h, List.filter_cons, if_pos h]; rfl
  · rw [if_neg h, List.filter_cons, if_neg h, List.filter_nil, List.map_nil, List.append_nil]
theorem fm_len (P : Nat → Bool) (g : Nat → Nat) (k : Nat) : (fm P g k).length = cnt P k := by
  induction k with
  | zero => rfl
  | succ k ih =>
    rw [fm_s, cnt_s]
    split
    · rw [List.length_append, ih]; rfl
    · exact ih
theorem mem_fm {P : Nat → Bool} {g : Nat → Nat} {k s : Nat} (h : s ∈ fm P g k) : ∃ j, j < k ∧ P j = true ∧ g j = s := by
  unfold fm at h
  obtain ⟨j, h1, h2⟩ := List.mem_map.mp h
  rw [List.mem_filter, List.mem_range] at h1
  exact ⟨j, h1.1, h1.2, h2⟩
theorem cnt_lt {P : Nat → Bool} {k N : Nat} (hk : k < N) (h : P k = true) : cnt P k < cnt P N := by
  have h1 := cnt_mono P (j := k + 1) (k := N) hk
  rw [cnt_s, if_pos h] at h1
  omega
theorem cnt_ne (f : Nat) : ∀ k, cnt (fun j => !Nat.beq j f) k = if f < k then k - 1 else k := by
  intro k
  induction k with
  | zero => rfl
  | succ k ih =>
    rw [cnt_s, ih]
    by_cases e : k = f
    · rw [beq_t.mpr e, if_neg (by decide), if_neg (by omega), if_pos (by omega)]; omega
    · rw [nbeq_f e, if_pos (show (!false) = true from rfl)]
      by_cases g : f < k
      · rw [if_pos g, if_pos (by omega)]; omega
      · rw [if_neg g, if_neg (by omega)]
end SP6

/-! cutOff: the call -/
def wo (s p : Nat) : Nat := (s &&& (2 ^ p - 1)) ||| ((s >>> (p + 1)) <<< p)
theorem rn_wo_all : (List.range 9).all (fun n => (List.range n).all fun p => (List.range (2 ^ n)).all fun s => Nat.beq (rn s (dif (2 ^ n - 1) (2 ^ p))) (wo s p)) = true := by decide +kernel
theorem pc_oth_all : (List.range 9).all (fun n => (List.range n).all fun p => Nat.beq (pc (dif (2 ^ n - 1) (2 ^ p))) (n - 1)) = true := by decide +kernel
theorem rn_wo {n p s : Nat} (hn : n ≤ 8) (hp : p < n) (hs : s < 2 ^ n) : rn s (dif (2 ^ n - 1) (2 ^ p)) = wo s p := beq_t.mp (List.all_eq_true.mp (List.all_eq_true.mp (List.all_eq_true.mp rn_wo_all n (List.mem_range.mpr (by omega))) p (List.mem_range.mpr hp)) s (List.mem_range.mpr hs))
theorem pc_oth {n p : Nat} (hn : n ≤ 8) (hp : p < n) : pc (dif (2 ^ n - 1) (2 ^ p)) = n - 1 := beq_t.mp (List.all_eq_true.mp (List.all_eq_true.mp pc_oth_all n (List.mem_range.mpr (by omega))) p (List.mem_range.mpr hp))
theorem eX7_without {s p : Nat} (hs : s < 2147483648) (hp : p < 31) : fX7_without (nI s) (nI p) = some (nI (wo s p)) := by
  unfold fX7_without wo
  rw [p_s1, p_shl1 (by omega), p_shr hs (by omega), p_shl _ (by omega), show nI (2 ^ p) - 1 = nI (2 ^ p - 1) from p_sub (b := 1) (p2_pos p), p_and, p_or]
theorem shl_lt {a x : Nat} (h : a < 2 ^ x) (y : Nat) : a <<< y < 2 ^ (y + x) := by
  rw [Nat.shiftLeft_eq, Nat.pow_add, Nat.mul_comm]
  exact Nat.mul_lt_mul_of_pos_left h (p2_pos y)
theorem last_eq (k j : Nat) : dif (2 ^ (k + j) - 1) (2 ^ k - 1) = (2 ^ j - 1) <<< k := Nat.eq_of_testBit_eq fun i => by
  rw [tb_dif, Nat.testBit_two_pow_sub_one, Nat.testBit_two_pow_sub_one, Nat.testBit_shiftLeft, Nat.testBit_two_pow_sub_one]
  by_cases h : i < k
  · rw [decide_eq_true h, decide_eq_false (show ¬ i ≥ k by omega)]; simp
  · rw [decide_eq_false h, decide_eq_true (show i ≥ k by omega)]
    by_cases g : i < k + j
    · rw [decide_eq_true g, decide_eq_true (show i - k < j by omega)]; rfl
    · rw [decide_eq_false g, decide_eq_false (show ¬ i - k < j by omega)]; rfl
section CO
variable {n m : Nat} {F : Nat → Nat}
theorem eX7_pointNeighbours {o : OX7} (hv : IncV n m F) (hN : NowR n m F (q7_now o)) (hL : q7_isLaid o = 0 ∨ LdR n m F o) {x : Nat} (hx : x < n) : ∃ y, fX7_pointNeighbours o (nI x) = some (nI (nbs (adP n m F) n x), y) ∧ LdR n m F y := by
  have hn := hv.2.1
  have h8 := p2_256 hn
  obtain ⟨q, e, hq⟩ := eX7_lay hv hN hL
  have key : ∃ y, fX7_pointNeighbours o (nI x) = some y ∧ y.1 = nI (nbs (adP n m F) n x) ∧ LdR n m F y.2 := by
    unfold fX7_pointNeighbours
    rw [bd_s e]
    refine lp_cntE (fun k s => (nI s, nI k)) (fun k s => if adP n m F x k = true then s ||| 2 ^ k else s) 0 n (fun _ _ => True) trivial (fun k s hk _ => ⟨?_, trivial⟩) (fun _ => ?_) (lpN_gt (by omega))
    · have hb : 2 ^ x ||| 2 ^ k < 2 ^ n := or_p2 (Nat.pow_lt_pow_right (by decide) hx) hk
      unfold fX7_pointNeighbours_L8
      dsimp only
      rw [hN.n, if_neg (nI_ge hk (by omega)), ifq (by omega) (by omega), p_s1, p_shl1 (by omega), p_shl1 (by omega), p_or, ck_t (p_ok (by omega) (by decide)), p_ix (by omega), hq.2.1 _ hb, Int32.or_zero, p_or]
      have hcl := cl_lt n m F (2 ^ x ||| 2 ^ k)
      by_cases e1 : k = x
      · rw [if_pos e1, e1, adP_r, if_neg Bool.false_ne_true]
      · have hA : adP n m F x k = fcB n m F (2 ^ x ||| 2 ^ k) := by
          unfold adP
          rw [nbeq_f (fun z => e1 z.symm)]; rfl
        rw [if_neg e1, hA, ifq (by omega) (by omega)]
        unfold fcB
        by_cases e2 : cl n m F (2 ^ x ||| 2 ^ k) = 2 ^ x ||| 2 ^ k
        · rw [if_pos e2, if_pos (beq_t.mpr e2)]
        · rw [if_neg e2, if_bf (nbeq_f e2)]
    · unfold fX7_pointNeighbours_L8
      dsimp only
      rw [hN.n, if_pos (nI_le (Nat.le_refl n) (by omega))]
      exact ⟨_, rfl, rfl, hq⟩
  obtain ⟨⟨y1, y2⟩, k1, k2, k3⟩ := key
  dsimp only at k2 k3
  subst k2
  exact ⟨y2, k1, k3⟩
/-- a facet after the cut -/
def ctF (n m : Nat) (F : Nat → Nat) (p f : Nat) : Nat := rn (F f) (dif (2 ^ n - 1) (2 ^ p)) ||| (if (F f).testBit p = true then rn (F f) (nbs (adP n m F) n p) else 0) <<< (n - 1)
def ctM (n m : Nat) (F : Nat → Nat) (p k : Nat) : List Nat := (List.range k).map (ctF n m F p)
def ctL (n m : Nat) (F : Nat → Nat) (p : Nat) : List Nat := ctM n m F p m ++ [(2 ^ pc (nbs (adP n m F) n p) - 1) <<< (n - 1)]
theorem ctM_len (p k : Nat) : (ctM n m F p k).length = k := by unfold ctM; rw [List.length_map, List.length_range]
theorem ctM_s (p k : Nat) : ctM n m F p (k + 1) = ctM n m F p k ++ [ctF n m F p k] := map_s _ k
theorem ctF_lt (hn : n ≤ 8) {p : Nat} (hp : p < n) (f : Nat) : ctF n m F p f < 2 ^ (n - 1 + pc (nbs (adP n m F) n p)) := by
  unfold ctF
  refine Nat.or_lt_two_pow ?_ (shl_lt ?_ _)
  · have := rn_lt (F f) (dif (2 ^ n - 1) (2 ^ p))
    rw [pc_oth hn hp] at this
    exact Nat.lt_of_lt_of_le this (p2_lt (by omega))
  · split
    · exact rn_lt _ _
    · exact p2_pos _
variable {o : OX6} {r : OX7}
theorem sk_10 (h : Rel o r) (x : Int32) : SK_10 Rel o r x := by
  obtain ⟨n, m, F, hv, hi, hl, hN, hL, hH, hS, hT⟩ := h
  obtain ⟨c, d, H, hc, hd, hA, hB, hE⟩ := HiR_to hH
  have hn := hv.2.1
  have h8 := p2_256 hn
  have hm := hv.2.2.1
  unfold SK_10 fX6_cutOff fX7_cutOff
  rw [eX6_checkPoint hv hi x, bd_s (eX7_isPoint (o := s7_thrown r 0) hv hN x)]
  rcases bool_ft (okI x n) with hx | hx
  · rw [if_bf hx, bd_s (eX7_fails_f _ hx 1)]
    exact ⟨(.inl 2, _), _, rfl, if_neg n10, sk_il (Or.inl rfl), hc_20.1.symm, sk_vl, n, m, F, hv, hi, hl, hN, hL, hH, hS, hT⟩
  · obtain ⟨p, hp, rfl⟩ := okI_of hx (by omega)
    have okp : okI (nI p) 10 = true := p_ok (by omega) (by decide)
    obtain ⟨g, g1, g2, g3⟩ := eX0_linkPoints (g := q6_graph o) hv hi hl
    have hnx : q0_nextTo g (ix (nI p)) = nI (nbs (adP n m F) n p) := by rw [p_ix (by omega)]; exact g3 p hp
    have hnb := nbs_lt (adP n m F) n p
    have hpc := pc_le (nbs (adP n m F) n p)
    obtain ⟨q, e, hq⟩ := eX7_pointNeighbours (o := s7_thrown r (q7_thrown (s7_thrown r 0))) hv hN hL hp
    have e1 : nI n - 1 = nI (n - 1) := p_sub (b := 1) (by omega)
    rw [if_pos hx, Option.bind_some, xb_r, bd_s g1, ck_t okp, hnx, bd_s (bitCount_pc (by omega)), bd_s (eX7_fails_t _ hx 1), if_pos rfl]
    dsimp only
    rw [bd_s e, hi.1, hi.2.1, hN.n, hN.m, e1, nI_add]
    dsimp only
    rw [bd_s (eX7_bits (by omega)), nI_add]
    unfold fX7_cutOff_J66
    generalize hK : pc (nbs (adP n m F) n p) = K
    rw [hK] at hpc
    have bad : ∃ (res : (Nat ⊕ Int32) × OX6) (res2 : Int32 × OX7), (some (Sum.inl 0, ((q6_text o), (q6_history o), (q6_lattice o), g, (q6_matching o), (q6_now o), (q6_saved o), (q6_next o), (q6_hasSaved o))) : Option ((Nat ⊕ Int32) × OX6)) = some res ∧ fX7_cutOff_J67 r (nI p) (0, s7_thrown r 0) (nI (nbs (adP n m F) n p), q) (nI K) 0 = some res2 ∧ (∀ k, res.1 = .inl k → k = 2 ∨ k = 0) ∧ q7_thrown (mh_cutOff r res2.2) = hcd [2, 0] res.1 ∧ (∀ v, res.1 = .inr v → res2.1 = v) ∧ Rel (mg_cutOff o res.2) (mh_cutOff r res2.2) := by
      unfold fX7_cutOff_J67
      rw [eX7_fails_0, Option.bind_some]
      exact ⟨(.inl 0, _), _, rfl, if_neg n10, sk_il (Or.inr rfl), hc_20.2.symm, sk_vl, n, m, F, hv, hi, hl, hN, Or.inr hq, hH, hS, hT⟩
    by_cases g0 : K = 0
    · rw [if_pos (show nI K = 0 by rw [g0]; rfl), if_pos (show nI K ≤ 0 by rw [g0]; decide)]
      exact bad
    · rw [if_neg (show ¬ nI K = 0 by rw [p_eq0 (by omega)]; exact g0), if_neg (nI_nle (by omega) (by omega))]
      by_cases gA : n - 1 + K ≤ 8
      · rw [if_neg (show ¬ (8 : Int32) < nI (n - 1 + K) from nI_nlt (a := 8) gA (by omega)), if_neg (show ¬ (8 : Int32) < nI (n - 1 + K) from nI_nlt (a := 8) gA (by omega))]
        by_cases gB : m < 10
        · rw [if_pos (show nI m < 10 from nI_lt (b := 10) gB (by omega)), if_neg (show ¬ (10 : Int32) ≤ nI m from nI_ge (b := 10) gB (by omega)), bd_s (eX2_allPoints hn hi.1)]
          have hctL : ctL n m F p = ctM n m F p m ++ [(2 ^ K - 1) <<< (n - 1)] := by unfold ctL; rw [hK]
          have hv' : IncV (n - 1 + K) (ctL n m F p).length (fnL (ctL n m F p)) := incVL (by omega) gA (by rw [hctL, List.length_append, ctM_len, List.length_singleton]; omega) fun s hs => by
            rw [hctL] at hs
            rcases List.mem_append.mp hs with z | z
            · unfold ctM at z
              obtain ⟨f, _, rfl⟩ := List.mem_map.mp z
              have := ctF_lt (m := m) (F := F) hn hp f
              rw [hK] at this
              exact this
            · rw [List.mem_singleton] at z
              rw [z]
              exact shl_lt (by have := p2_pos K; omega) _
          have c6 : ∃ res, ((fX2_clear (q6_next o) (nI (n - 1 + K))).bind fun r15 => lp (fX6_cutOff_L109 o (nI p) g (nI K) (nI (2 ^ n - 1)) r15) lpN (0, (q2_facets r15), (q2_sets (q6_next o)))) = some res ∧ res.1 = .inr (nI (n - 1 + K)) ∧ ClsN (n - 1 + K) (ctL n m F p).length (fnL (ctL n m F p)) (hcn c) (hdn c d) (hHn c H (n, m, F)) res.2 := by
            rw [show fX2_clear (q6_next o) (nI (n - 1 + K)) = some (s2_facets (s2_points (q6_next o) (nI (n - 1 + K))) 0) from rfl, Option.bind_some]
            refine lp_inv (fun k v => v.1 = nI k ∧ IncL (n - 1 + K) (ctM n m F p k) (v.2.2, nI (n - 1 + K), v.2.1)) _ m ?_ (fun k v hk hI => Or.inl ?_) (fun v hI => ?_) (lpN_gt (by omega))
            · exact ⟨rfl, incL_0 _ _⟩
            · obtain ⟨vk, vf, vs⟩ := v
              obtain ⟨h1, h2⟩ := hI
              dsimp only at h1 h2
              subst h1
              have hFk := hv.2.2.2 k hk
              obtain ⟨z, z1, z2⟩ := eX2_addL h2 (by rw [ctM_len]; omega) (ctF n m F p k)
              have hJ : ∀ y : Nat, (if (F k).testBit p = true then rn (F k) (nbs (adP n m F) n p) else 0) = y → fX6_cutOff_J156 o (nI p) (nI (2 ^ n - 1)) (s2_facets (s2_points (q6_next o) (nI (n - 1 + K))) 0) (nI k, vf, vs) (nI y) = some (.inl (nI (k + 1), q2_facets z, q2_sets z)) := fun y hy => by
                have hval : nI (rn (F k) (dif (2 ^ n - 1) (2 ^ p))) ||| jshl (nI y) (nI (n - 1)) = nI (ctF n m F p k) := by
                  rw [p_shl _ (by omega), p_or, ← hy]; rfl
                unfold fX6_cutOff_J156
                dsimp only
                rw [p_ix (by omega : k < 2147483648), hi.2.2 k hk, p_shl1 (by omega), p_dif, bd_s (eX2_renumbered (by omega) (dif_lt (by omega))), hi.1, e1, hval, show q2_points (s2_facets (s2_points (q6_next o) (nI (n - 1 + K))) 0) = nI (n - 1 + K) from rfl, bd_s z1, p_s1]
              unfold fX6_cutOff_L109
              dsimp only
              rw [hi.2.1, if_neg (nI_ge hk (by omega)), ck_t (p_ok (by omega) (by decide)), bd_s (eX2_has hi hv hk (by omega)), p_ix (by omega : k < 2147483648), hi.2.2 k hk, hnx, bd_s (eX2_renumbered (by omega) (by omega)), ctM_s]
              rcases bool_ft ((F k).testBit p) with b | b
              · rw [if0_f b]
                exact ⟨_, hJ 0 (if_bf b _ _), rfl, rfl, z2.2.1, z2.2.2⟩
              · rw [if0_t b, hJ _ (if_pos b)]
                exact ⟨_, rfl, rfl, rfl, z2.2.1, z2.2.2⟩
            · obtain ⟨vk, vf, vs⟩ := v
              obtain ⟨h1, h2⟩ := hI
              dsimp only at h1 h2
              subst h1
              obtain ⟨z, z1, z2⟩ := eX2_addL h2 (by rw [ctM_len]; omega) ((2 ^ K - 1) <<< (n - 1))
              rw [← hctL] at z2
              obtain ⟨w, c1, c2⟩ := eX6_change (o := ((q6_text o), (q6_history o), (q6_lattice o), g, (q6_matching o), (q6_now o), (q6_saved o), ((q2_sets z), nI (n - 1 + K), (q2_facets z)), (q6_hasSaved o))) hc hd hA hv hi hv' ⟨rfl, z2.2.1, z2.2.2⟩
              have hval : jshl (jshl 1 (nI K) - 1) (nI (n - 1)) = nI ((2 ^ K - 1) <<< (n - 1)) := by
                rw [p_shl1 (by omega), show nI (2 ^ K) - 1 = nI (2 ^ K - 1) from p_sub (b := 1) (p2_pos K), p_shl _ (by omega)]
              unfold fX6_cutOff_L109
              dsimp only
              rw [hi.2.1, if_pos (nI_le (Nat.le_refl _) (by omega)), hi.1, e1, hval, show q2_points (s2_facets (s2_points (q6_next o) (nI (n - 1 + K))) 0) = nI (n - 1 + K) from rfl, bd_s z1, bd_s c1]
              exact ⟨_, rfl, congrArg Sum.inr c2.1.1, c2.up _ _ _ _ _ _ _ _⟩
          obtain ⟨⟨a1, z⟩, k1, k2, k3⟩ := c6
          dsimp only at k2 k3
          subst k2
          rw [k1]
          refine sk_lp ?_
          have fin : ∀ res2 : Int32 × OX7, q7_thrown res2.2 = 0 → res2.1 = nI (n - 1 + K) → RefN (n - 1 + K) (ctL n m F p).length (fnL (ctL n m F p)) (hcn c) (hHn c H (n, m, F)) res2.2 → ((∀ k, (Sum.inr (nI (n - 1 + K)) : Nat ⊕ Int32) = Sum.inl k → k = 2 ∨ k = 0) ∧ q7_thrown (mh_cutOff r res2.2) = hcd [2, 0] (Sum.inr (nI (n - 1 + K))) ∧ (∀ v, (Sum.inr (nI (n - 1 + K)) : Nat ⊕ Int32) = Sum.inr v → res2.1 = v) ∧ Rel (mg_cutOff o z) (mh_cutOff r res2.2)) := fun res2 t1 t2 t3 => ⟨sk_ir, t1, sk_vr t2, Rel_of (hcn_8 hc) (hdn_8 hd) hv' k3 t3 hS hT⟩
          unfold fX7_cutOff_J67
          rw [eX7_fails_1, Option.bind_some]
          dsimp only
          rw [if_pos (rfl : (0 : Int32) = 0)]
          refine bd_ex (eX7_record hc (hi_V hA) (by exact hB) (by exact hE) hm (by exact hN)) (fun w hw => ?_)
          obtain ⟨w2, w3, w4⟩ := hw
          rw [hN.n, e1, nI_add]
          refine bd_ex (eX7_beginE _ (n - 1 + K)) (fun g' g2' => ?_)
          refine lp_inv (fun k v => v.1 = nI k ∧ MadeL (n - 1 + K) (ctM n m F p k) v.2) _ m ?_ (fun k v hk hI => Or.inl ?_) (fun v hI => ?_) (lpN_gt (by omega))
          · exact ⟨rfl, g2'⟩
          · obtain ⟨vk, vg⟩ := v
            obtain ⟨h1, h2⟩ := hI
            dsimp only at h1 h2
            subst h1
            have hFk := hv.2.2.2 k hk
            unfold fX7_cutOff_L101
            dsimp only
            rw [hN.m, if_neg (nI_ge hk (by omega)), ck_t (ok12 (by omega)), hN.f hk hm, hN.n, e1, bd_s (eX7_without (by omega) (by omega)), ctM_s]
            refine lp_in (fun j v => v = (nI (wo (F k) p ||| (if (F k).testBit p = true then (rnp (F k) (nbs (adP n m F) n p) j).1 else 0) <<< (n - 1)), nI (n - 1 + (rnp (F k) (nbs (adP n m F) n p) j).2), nI j)) 8 ?_ (fun j v hj hI => ?_) (fun v hI => ?_) (lpN_gt (by omega))
            · have e0 : (if (F k).testBit p = true then (rnp (F k) (nbs (adP n m F) n p) 0).1 else 0) = 0 := by split <;> rfl
              rw [e0, Nat.zero_shiftLeft, Nat.or_zero]; rfl
            · subst hI
              have hle := rnp_le (F k) (nbs (adP n m F) n p) j
              unfold fX7_cutOff_L138
              dsimp only
              rw [if_neg (show ¬ (8 : Int32) ≤ nI j from nI_ge (b := 8) hj (by omega)), bd_s (eX7_has (by omega) (by omega)), hN.f hk hm, bd_s (eX7_has (by omega) (by omega)), bd_s (eX7_has (by omega) (by omega)), p_s1, p_s1, p_shl1 (by omega), p_or, Int32.or_zero, rnp_s, shl_b]
              rcases bool_ft ((nbs (adP n m F) n p).testBit j) with b1 | b1
              · rw [if0_f b1, if_bf b1]
                exact ⟨_, rfl, rfl⟩
              · rw [if0_t b1, if_pos b1]
                rcases bool_ft ((F k).testBit p) with b2 | b2
                · rw [if0_f b2, if_bf b2, if_bf b2]
                  exact ⟨_, rfl, rfl⟩
                · rw [if0_t b2, if_pos b2, if_pos b2]
                  rcases bool_ft ((F k).testBit j) with b3 | b3
                  · rw [if0_f b3, if_bf b3, Nat.or_zero]
                    exact ⟨_, rfl, rfl⟩
                  · rw [if0_t b3, if_pos b3]
                    refine ⟨_, rfl, ?_⟩
                    have e2 : (2 ^ (rnp (F k) (nbs (adP n m F) n p) j).2) <<< (n - 1) = 2 ^ (n - 1 + (rnp (F k) (nbs (adP n m F) n p) j).2) := by
                      rw [Nat.shiftLeft_eq, ← Nat.pow_add, Nat.add_comm]
                    rw [Nat.shiftLeft_or_distrib, e2, ← Nat.or_assoc]
                    rfl
            · subst hI
              unfold fX7_cutOff_L138
              dsimp only
              have hval : wo (F k) p ||| (if (F k).testBit p = true then (rnp (F k) (nbs (adP n m F) n p) 8).1 else 0) <<< (n - 1) = ctF n m F p k := by
                unfold ctF
                rw [rn_wo hn hp hFk]
                rfl
              rw [if_pos (show (8 : Int32) ≤ nI 8 from nI_le (a := 8) (Nat.le_refl 8) (by omega)), hval, p_s1]
              refine ex_in (bd_in (eX7_addE (by exact h2) (by rw [ctM_len]; omega) (ctF n m F p k)) (fun z hz => ?_))
              exact ⟨_, rfl, rfl, hz⟩
          · obtain ⟨vk, vg⟩ := v
            obtain ⟨h1, h2⟩ := hI
            dsimp only at h1 h2
            subst h1
            have hev : ∀ k, k < 31 → fX7_every (nI k) = some (nI (2 ^ k - 1)) := fun k hk => by
              unfold fX7_every
              rw [p_shl1 (by omega)]
              exact congrArg some (p_sub (b := 1) (p2_pos k))
            unfold fX7_cutOff_L101
            dsimp only
            rw [hN.m, if_pos (nI_le (Nat.le_refl _) (by omega)), hN.n, e1, nI_add, bd_s (hev _ (by omega)), bd_s (hev _ (by omega)), p_dif, last_eq]
            refine ex_ex (bd_ex (eX7_addE (by exact h2) (by rw [ctM_len]; omega) ((2 ^ K - 1) <<< (n - 1))) (fun u hu => ?_))
            rw [← hctL] at hu
            refine bd_ex (eX7_takeMade hv'.2.2.1 (by exact hu)) (fun y hy => ?_)
            exact ⟨_, rfl, fin _ rfl hy.1.n ⟨hy.1, Or.inl hy.2, w4, w2⟩⟩
        · rw [if_neg (show ¬ nI m < 10 from nI_nlt (b := 10) (by omega) (by omega)), if_pos (show (10 : Int32) ≤ nI m from nI_le (a := 10) (by omega) (by omega))]
          exact bad
      · rw [if_pos (show (8 : Int32) < nI (n - 1 + K) from nI_lt (a := 8) (by omega) (by omega)), if_pos (show (8 : Int32) < nI (n - 1 + K) from nI_lt (a := 8) (by omega) (by omega))]
        exact bad
end CO

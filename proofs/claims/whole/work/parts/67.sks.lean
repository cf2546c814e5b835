/-! stack: the call -/
section SS7
variable {n m : Nat} {F : Nat → Nat}
/-- the facets but one; the faces that it covers, with the apex -/
def skA (F : Nat → Nat) (f k : Nat) : List Nat := fm (fun j => !Nat.beq j f) F k
def skB (n m : Nat) (F : Nat → Nat) (f k : Nat) : List Nat := fm (fun j => cvB n m F (fa n m F j) (F f)) (fun j => fa n m F j ||| 2 ^ n) k
def skL (n m : Nat) (F : Nat → Nat) (f : Nat) : List Nat := skA F f m ++ skB n m F f (nf n m F)
variable {o : OX6} {r : OX7}
theorem sk_9 (h : Rel o r) (x : Int32) : SK_9 Rel o r x := by
  obtain ⟨n, m, F, hv, hi, hl, hN, hL, hH, hS, hT⟩ := h
  obtain ⟨c, d, H, hc, hd, hA, hB, hE⟩ := HiR_to hH
  have hn := hv.2.1
  have h8 := p2_256 hn
  have hm := hv.2.2.1
  have hnf := nf_256 (m := m) (F := F) hn
  unfold SK_9
  rcases bool_ft (okI x m) with hx | hx
  · have e7 : fX7_stack r x = some (0, s7_thrown r 1) := by
      unfold fX7_stack
      rw [bd_s (eX7_isFacet (o := s7_thrown r 0) hv hN x), bd_s (eX7_fails_f _ hx 1)]
      exact if_neg n10
    unfold fX6_stack
    rw [eX6_checkFacet hv hi x, if_bf hx, e7]
    exact ⟨(.inl 2, _), _, rfl, rfl, sk_il (Or.inl rfl), hc_20.1.symm, sk_vl, n, m, F, hv, hi, hl, hN, hL, hH, hS, hT⟩
  · obtain ⟨f, hf, rfl⟩ := okI_of hx (by omega)
    have fF := facet_fc hv hf
    have hFf := fF.1
    obtain ⟨q, e, hq⟩ := eX7_lay (o := s7_thrown r (q7_thrown (s7_thrown r 0))) hv hN hL
    have hfm : q7_faceMany q = nI (nf n m F) := hq.2.2.2.1
    have hni := ni_lt hn fF
    have hfn := fa_ni hn fF
    have hplace : q7_placeOf q (ix (nI (F f))) = nI (ni n m F (F f)) := hq.2.2.2.no hn fF
    have okf10 : okI (nI f) 10 = true := p_ok (by omega) (by decide)
    have okf12 : okI (2 + nI f) 12 = true := ok12 (by omega)
    generalize hK : cnt (fun j => cvB n m F (fa n m F j) (F f)) (nf n m F) = K
    have hKle : K ≤ 256 := by rw [← hK]; exact Nat.le_trans (cnt_le _ _) hnf
    have hK6 : fX3_countCovers (q6_lattice o) (nI (F f)) 0 = some (nI K) := by
      rw [eX3_countCovers hn hl 0 hFf, ← hK]
      rfl
    have hK7 : ∀ w : OX7, LaidR n m F (q7_closed w) (q7_faces w) (q7_rankOf w) (q7_placeOf w) (q7_faceMany w) → fX7_coverCount w (nI (ni n m F (F f))) 0 = some (nI K) := fun w hw => by
      rw [eX7_coverCount hn hw 0 hni, hfn, ← hK]
      rfl
    have e6a : fX6_stack o (nI f) = if nI K = 0 then some (.inl 0, o) else (if (8 : Int32) ≤ nI n then some (.inl 0, o) else (if (nI (m - 1 + K)) ≤ 10 then lp (fX6_stack_L95 o (nI f) (s2_facets (s2_points (q6_next o) (nI (n + 1))) 0)) lpN (0, 0, q2_sets (q6_next o)) else some (.inl 0, o))) := by
      have e1 : nI m - 1 + nI K = nI (m - 1 + K) := by
        rw [show nI m - 1 = nI (m - 1) from p_sub (b := 1) (by omega), nI_add]
      unfold fX6_stack
      rw [eX6_checkFacet hv hi, if_pos hx, Option.bind_some, xb_r, ck_t okf10, p_ix (by omega), hi.2.2 f hf, bd_s hK6, hi.1, hi.2.1, e1, p_s1]
      rfl
    have e7a : ∃ w, LdR n m F w ∧ (∀ b : Int32, True) ∧ fX7_stack r (nI f) = if nI K ≤ 0 then fX7_stack_J81 r (nI f) (0, s7_thrown r 0) w 0 else (if (8 : Int32) ≤ nI n then fX7_stack_J81 r (nI f) (0, s7_thrown r 0) w 0 else (if 10 < nI (m - 1 + K) then fX7_stack_J81 r (nI f) (0, s7_thrown r 0) w 0 else fX7_stack_J81 r (nI f) (0, s7_thrown r 0) w 1)) := by
      have e1 : nI m - 1 + nI K = nI (m - 1 + K) := by
        rw [show nI m - 1 = nI (m - 1) from p_sub (b := 1) (by omega), nI_add]
      refine ⟨q, hq, fun _ => trivial, ?_⟩
      unfold fX7_stack fX7_stack_J80
      rw [bd_s (eX7_isFacet (o := s7_thrown r 0) hv hN (nI f)), bd_s (eX7_fails_t _ hx 1)]
      dsimp only
      rw [if_pos (rfl : (0 : Int32) = 0), bd_s e, ck_t okf12, hN.f hf hm, ck_t (p_ok (by omega) (by decide)), hplace, bd_s (hK7 _ ?hw), hN.n, hN.m, e1]
      exact hq.2
    obtain ⟨w0, hw0, _, e7a⟩ := e7a
    rw [e6a, e7a]
    have bad : ∃ (res : (Nat ⊕ Int32) × OX6) (res2 : Int32 × OX7), (some (Sum.inl 0, o) : Option ((Nat ⊕ Int32) × OX6)) = some res ∧ fX7_stack_J81 r (nI f) (0, s7_thrown r 0) w0 0 = some res2 ∧ (∀ k, res.1 = .inl k → k = 2 ∨ k = 0) ∧ q7_thrown (mh_stack r res2.2) = hcd [2, 0] res.1 ∧ (∀ v, res.1 = .inr v → res2.1 = v) ∧ Rel (mg_stack o res.2) (mh_stack r res2.2) := by
      unfold fX7_stack_J81
      rw [eX7_fails_0, Option.bind_some]
      exact ⟨(.inl 0, _), _, rfl, if_neg n10, sk_il (Or.inr rfl), hc_20.2.symm, sk_vl, n, m, F, hv, hi, hl, hN, Or.inr hw0, hH, hS, hT⟩
    by_cases g0 : K = 0
    · rw [if_pos (show nI K = 0 by rw [g0]; rfl), if_pos (show nI K ≤ 0 by rw [g0]; decide)]
      exact bad
    · rw [if_neg (show ¬ nI K = 0 by rw [p_eq0 (by omega)]; exact g0), if_neg (nI_nle (by omega) (by omega))]
      by_cases g1 : n < 8
      · rw [if_neg (show ¬ (8 : Int32) ≤ nI n from nI_ge (b := 8) g1 (by omega)), if_neg (show ¬ (8 : Int32) ≤ nI n from nI_ge (b := 8) g1 (by omega))]
        by_cases g2 : m - 1 + K ≤ 10
        · rw [if_pos (show nI (m - 1 + K) ≤ 10 from nI_le (b := 10) g2 (by omega)), if_neg (show ¬ (10 : Int32) < nI (m - 1 + K) from nI_nlt (a := 10) g2 (by omega))]
          have lA : ∀ k, k ≤ m → (skA F f k).length ≤ m - 1 := fun k hk => by
            unfold skA
            rw [fm_len, ← show cnt (fun j => !Nat.beq j f) m = m - 1 by rw [cnt_ne, if_pos hf]]
            exact cnt_mono _ hk
          have lA2 : ∀ k, k < m → k ≠ f → (skA F f k).length < m - 1 := fun k hk hkf => by
            unfold skA
            rw [fm_len, ← show cnt (fun j => !Nat.beq j f) m = m - 1 by rw [cnt_ne, if_pos hf]]
            exact cnt_lt hk (by rw [nbeq_f hkf]; rfl)
          have lB : ∀ k, k < nf n m F → cvB n m F (fa n m F k) (F f) = true → (skA F f m ++ skB n m F f k).length < 10 := fun k hk hb => by
            have h1 := lA m (Nat.le_refl m)
            have h2 : (skB n m F f k).length < K := by
              unfold skB
              rw [fm_len, ← hK]
              exact cnt_lt hk hb
            rw [List.length_append]
            omega
          have hv' : IncV (n + 1) (skL n m F f).length (fnL (skL n m F f)) := incVL (by omega) (by omega) (by
            have h1 := lA m (Nat.le_refl m)
            unfold skL skB
            rw [List.length_append, fm_len, hK]
            omega) fun s hs => by
            unfold skL at hs
            rcases List.mem_append.mp hs with z | z
            · obtain ⟨j, j1, _, rfl⟩ := mem_fm z
              exact Nat.lt_of_lt_of_le (hv.2.2.2 j j1) (p2_lt (Nat.le_succ n))
            · obtain ⟨j, j1, _, rfl⟩ := mem_fm z
              exact or_up (fa_fc hn j1).1
          have c6 : ∃ res, lp (fX6_stack_L95 o (nI f) (s2_facets (s2_points (q6_next o) (nI (n + 1))) 0)) lpN (0, 0, q2_sets (q6_next o)) = some res ∧ res.1 = .inr (nI (skL n m F f).length) ∧ ClsN (n + 1) (skL n m F f).length (fnL (skL n m F f)) (hcn c) (hdn c d) (hHn c H (n, m, F)) res.2 := by
            have c6b : ∀ vf vs, IncL (n + 1) (skA F f m) (vs, nI (n + 1), vf) → ∃ res, lp (fX6_stack_L139 o (nI f) (s2_facets (s2_points (q6_next o) (nI (n + 1))) 0)) lpN (0, vf, vs) = some res ∧ res.1 = .inr (nI (skL n m F f).length) ∧ ClsN (n + 1) (skL n m F f).length (fnL (skL n m F f)) (hcn c) (hdn c d) (hHn c H (n, m, F)) res.2 := fun vf vs h0 => by
              refine lp_inv (fun k v => v.1 = nI k ∧ IncL (n + 1) (skA F f m ++ skB n m F f k) (v.2.2, nI (n + 1), v.2.1)) _ (nf n m F) ?_ (fun k v hk hI => Or.inl ?_) (fun v hI => ?_) (lpN_gt (by omega))
              · refine ⟨rfl, ?_⟩
                rw [show skB n m F f 0 = [] from rfl, List.append_nil]
                exact h0
              · obtain ⟨vk, vf, vs⟩ := v
                obtain ⟨h1, h2⟩ := hI
                dsimp only at h1 h2
                subst h1
                have hok : okI (nI k) 256 = true := p_ok (by omega) (by decide)
                unfold fX6_stack_L139
                dsimp only
                rw [hl.sz, if_neg (nI_ge hk (by omega)), ck_t hok, hl.2.2.1.f hk hnf, p_ix (by omega : f < 2147483648), hi.2.2 f hf, bd_s (eX3_isCover hn hl.1.1 hl.cl hFf (fa_fc hn hk).1), p_s1]
                have es : skB n m F f (k + 1) = if cvB n m F (fa n m F k) (F f) = true then skB n m F f k ++ [fa n m F k ||| 2 ^ n] else skB n m F f k := fm_s _ _ k
                rcases bool_ft (cvB n m F (fa n m F k) (F f)) with b | b
                · rw [if0_f b]
                  rw [if_bf b] at es
                  refine ⟨_, rfl, rfl, ?_⟩
                  rw [es]; exact h2
                · obtain ⟨z, z1, z2⟩ := eX2_addL h2 (lB k hk b) (fa n m F k ||| 2 ^ n)
                  rw [if0_t b, ck_t hok, hi.1, p_shl1 (by omega), p_or, show q2_points (s2_facets (s2_points (q6_next o) (nI (n + 1))) 0) = nI (n + 1) from rfl, bd_s z1]
                  rw [if_pos b] at es
                  refine ⟨_, rfl, rfl, ?_⟩
                  rw [es, ← List.append_assoc]
                  exact ⟨rfl, z2.2.1, z2.2.2⟩
              · obtain ⟨vk, vf, vs⟩ := v
                obtain ⟨h1, h2⟩ := hI
                dsimp only at h1 h2
                subst h1
                obtain ⟨z, c1, c2⟩ := eX6_change (o := ((q6_text o), (q6_history o), (q6_lattice o), (q6_graph o), (q6_matching o), (q6_now o), (q6_saved o), (vs, nI (n + 1), vf), (q6_hasSaved o))) hc hd hA hv hi hv' h2
                unfold fX6_stack_L139
                dsimp only
                rw [hl.sz, if_pos (nI_le (Nat.le_refl _) (by omega)), show q2_points (s2_facets (s2_points (q6_next o) (nI (n + 1))) 0) = nI (n + 1) from rfl, bd_s c1]
                exact ⟨_, rfl, congrArg Sum.inr c2.1.2.1, c2.up _ _ _ _ _ _ _ _⟩
            refine lp_inv (fun k v => v.1 = nI k ∧ IncL (n + 1) (skA F f k) (v.2.2, nI (n + 1), v.2.1)) _ m ?_ (fun k v hk hI => Or.inl ?_) (fun v hI => ?_) (lpN_gt (by omega))
            · exact ⟨rfl, incL_0 (n + 1) _⟩
            · obtain ⟨vk, vf, vs⟩ := v
              obtain ⟨h1, h2⟩ := hI
              dsimp only at h1 h2
              subst h1
              unfold fX6_stack_L95
              dsimp only
              rw [hi.2.1, if_neg (nI_ge hk (by omega)), ifq (by omega) (by omega), p_s1]
              have es : skA F f (k + 1) = if (!Nat.beq k f) = true then skA F f k ++ [F k] else skA F f k := fm_s _ _ k
              by_cases b : k = f
              · rw [if_pos b]
                rw [beq_t.mpr b, if_neg (by decide)] at es
                refine ⟨_, rfl, rfl, ?_⟩
                rw [es]; exact h2
              · obtain ⟨z, z1, z2⟩ := eX2_addL h2 (by have := lA2 k hk b; omega) (F k)
                rw [if_neg b, ck_t (p_ok (by omega) (by decide)), p_ix (by omega), hi.2.2 k hk, show q2_points (s2_facets (s2_points (q6_next o) (nI (n + 1))) 0) = nI (n + 1) from rfl, bd_s z1]
                rw [nbeq_f b, if_pos (show (!false) = true from rfl)] at es
                refine ⟨_, rfl, rfl, ?_⟩
                rw [es]
                exact ⟨rfl, z2.2.1, z2.2.2⟩
            · obtain ⟨vk, vf, vs⟩ := v
              obtain ⟨h1, h2⟩ := hI
              dsimp only at h1 h2
              subst h1
              unfold fX6_stack_L95
              dsimp only
              rw [hi.2.1, if_pos (nI_le (Nat.le_refl m) (by omega))]
              obtain ⟨res, k1, k2⟩ := c6b vf vs h2
              exact ⟨res, by rw [k1]; rfl, k2⟩
          have c7 : ∃ res, fX7_stack_J81 r (nI f) (0, s7_thrown r 0) w0 1 = some res ∧ q7_thrown res.2 = 0 ∧ res.1 = nI (skL n m F f).length ∧ RefN (n + 1) (skL n m F f).length (fnL (skL n m F f)) (hcn c) (hHn c H (n, m, F)) res.2 := by
            have hfm0 : q7_faceMany w0 = nI (nf n m F) := hw0.2.2.2.1
            unfold fX7_stack_J81
            rw [eX7_fails_1, Option.bind_some]
            dsimp only
            rw [if_pos (rfl : (0 : Int32) = 0)]
            refine bd_ex (eX7_record hc (hi_V hA) (by exact hB) (by exact hE) hm (by exact hN)) (fun w hw => ?_)
            obtain ⟨w2, w3, w4⟩ := hw
            rw [hN.n, p_s1]
            refine bd_ex (eX7_beginE _ (n + 1)) (fun g g2 => ?_)
            refine lp_inv (fun k v => v.1 = nI k ∧ MadeL (n + 1) (skA F f k) v.2) _ m ?_ (fun k v hk hI => Or.inl ?_) (fun v hI => ?_) (lpN_gt (by omega))
            · exact ⟨rfl, g2⟩
            · obtain ⟨vk, vg⟩ := v
              obtain ⟨h1, h2⟩ := hI
              dsimp only at h1 h2
              subst h1
              unfold fX7_stack_L109
              dsimp only
              rw [hN.m, if_neg (nI_ge hk (by omega)), ifq (by omega) (by omega), p_s1]
              have es : skA F f (k + 1) = if (!Nat.beq k f) = true then skA F f k ++ [F k] else skA F f k := fm_s _ _ k
              by_cases b : k = f
              · rw [if_pos b]
                rw [beq_t.mpr b, if_neg (by decide)] at es
                refine ⟨_, rfl, rfl, ?_⟩
                rw [es]; exact h2
              · rw [if_neg b, ck_t (ok12 (by omega)), hN.f hk hm]
                rw [nbeq_f b, if_pos (show (!false) = true from rfl)] at es
                rw [es]
                exact bd_in (eX7_addE (by exact h2) (by have := lA2 k hk b; omega) (F k)) (fun z hz => ⟨_, rfl, rfl, hz⟩)
            · obtain ⟨vk, vg⟩ := v
              obtain ⟨h1, h2⟩ := hI
              dsimp only at h1 h2
              subst h1
              unfold fX7_stack_L109
              dsimp only
              rw [hN.m, if_pos (nI_le (Nat.le_refl m) (by omega))]
              refine ex_ex ?_
              refine lp_inv (fun k v => v.1 = nI k ∧ MadeL (n + 1) (skA F f m ++ skB n m F f k) v.2) _ (nf n m F) ?_ (fun k v hk hI => Or.inl ?_) (fun v hI => ?_) (lpN_gt (by omega))
              · refine ⟨rfl, ?_⟩
                rw [show skB n m F f 0 = [] from rfl, List.append_nil]
                exact h2
              · obtain ⟨vk, vg⟩ := v
                obtain ⟨h1, h2⟩ := hI
                dsimp only at h1 h2
                subst h1
                have hplace0 : q7_placeOf w0 (ix (nI (F f))) = nI (ni n m F (F f)) := hw0.2.2.2.no hn fF
                have es : skB n m F f (k + 1) = if cvB n m F (fa n m F k) (F f) = true then skB n m F f k ++ [fa n m F k ||| 2 ^ n] else skB n m F f k := fm_s _ _ k
                unfold fX7_stack_L148
                dsimp only
                rw [if_neg (by rw [hfm0]; exact nI_ge hk (by omega)), hN.f hf hm, hplace0, bd_s (eX7_covers hn ?hlaid hni hk), hfn, p_s1]
                case hlaid => exact hw0.2
                rcases bool_ft (cvB n m F (fa n m F k) (F f)) with b | b
                · rw [if0_f b]
                  rw [if_bf b] at es
                  refine ⟨_, rfl, rfl, ?_⟩
                  rw [es]; exact h2
                · rw [if_pos b] at es
                  rw [if0_t b, ck_t (p_ok (by omega) (by decide)), hw0.2.2.2.f hk hnf, hN.n, p_shl1 (by omega), p_or, es, ← List.append_assoc]
                  exact bd_in (eX7_addE (by exact h2) (lB k hk b) (fa n m F k ||| 2 ^ n)) (fun z hz => ⟨_, rfl, rfl, hz⟩)
              · obtain ⟨vk, vg⟩ := v
                obtain ⟨h1, h2⟩ := hI
                dsimp only at h1 h2
                subst h1
                unfold fX7_stack_L148
                dsimp only
                rw [if_pos (by rw [hfm0]; exact nI_le (Nat.le_refl _) (by omega))]
                refine ex_ex (bd_ex (eX7_takeMade hv'.2.2.1 (by exact h2)) (fun y hy => ?_))
                exact ⟨_, rfl, rfl, hy.1.m, hy.1, Or.inl hy.2, w4, w2⟩
          obtain ⟨⟨a1, z⟩, k1, k2, k3⟩ := c6
          obtain ⟨⟨b1, w⟩, k4, k5, k6, k7⟩ := c7
          dsimp only at k2 k3 k5 k6 k7
          subst k2 k6
          exact ⟨_, _, k1, k4, sk_ir, k5, sk_vr rfl, Rel_of (hcn_8 hc) (hdn_8 hd) hv' k3 k7 hS hT⟩
        · rw [if_neg (show ¬ nI (m - 1 + K) ≤ 10 from nI_ge (a := 10) (by omega) (by omega)), if_pos (show (10 : Int32) < nI (m - 1 + K) from nI_lt (a := 10) (by omega) (by omega))]
          exact bad
      · rw [if_pos (show (8 : Int32) ≤ nI n from nI_le (a := 8) (by omega) (by omega)), if_pos (show (8 : Int32) ≤ nI n from nI_le (a := 8) (by omega) (by omega))]
        exact bad
end SS7

/-! graded, alternating sums, Eulerian, simplicial, simple -/
def YN (v : Int32) (P : Prop) : Prop := (v = 1 ∧ P) ∨ (v = 0 ∧ ¬ P)
theorem YN.eq {v w : Int32} {P : Prop} (h : YN v P) (g : YN w P) : v = w := by
  rcases h with ⟨h1, h2⟩ | ⟨h1, h2⟩ <;> rcases g with ⟨g1, g2⟩ | ⟨g1, g2⟩
  · rw [h1, g1]
  · exact absurd h2 g2
  · exact absurd g2 h2
  · rw [h1, g1]
theorem YN.ok {v : Int32} {P : Prop} (h : YN v P) : is01 v = true := by
  rcases h with ⟨rfl, _⟩ | ⟨rfl, _⟩ <;> decide
theorem YN.cg {v : Int32} {P Q : Prop} (h : YN v P) (e : P ↔ Q) : YN v Q := by
  rcases h with ⟨h1, h2⟩ | ⟨h1, h2⟩
  · exact Or.inl ⟨h1, e.mp h2⟩
  · exact Or.inr ⟨h1, fun z => h2 (e.mpr z)⟩
theorem p_mul (a b : Nat) : nI a * nI b = nI (a * b) := (Int32.ofNat_mul a b).symm
theorem p_div {a b : Nat} (ha : a < 2147483648) (hb : b < 2147483648) : nI a / nI b = nI (a / b) := by
  apply Int32.toInt_inj.mp
  rw [Int32.toInt_div_of_ne_right (nI a) (nI b) (fun z => by rw [p_nm1 hb] at z; exact z), nI_toInt ha, nI_toInt hb, nI_toInt (Nat.lt_of_le_of_lt (Nat.div_le_self a b) ha), Int.ofNat_tdiv]
theorem p_rem {a b : Nat} (ha : a < 2147483648) (hb : b < 2147483648) : jrem (nI a) (nI b) = nI (a % b) := by
  show nI a - nI a / nI b * nI b = _
  rw [p_div ha hb, p_mul, p_sub (Nat.div_mul_le_self a b)]
  congr 1
  have h1 := Nat.div_add_mod a b
  rw [Nat.mul_comm] at h1
  omega
theorem sg_if {α : Type} {d : Nat} (hd : d < 2147483648) (x y : α) : (if jrem (nI d) 2 = 0 then x else y) = if d % 2 = 0 then x else y := by
  rw [show (2 : Int32) = nI 2 from rfl, p_rem hd (by decide), ifq0 (by omega)]
section KD
variable (n m : Nat) (F : Nat → Nat)
def GA (a : Nat) : Prop := ∀ u, Fc n m F u → Cv n m F a u → rk n m F u = rk n m F a + 1
def GR : Prop := ∀ a, Fc n m F a → GA n m F a
def MA (a : Nat) : Prop := ∀ t, Fc n m F t → Sb a t → mu n m F a t = sgn (rk n m F t - rk n m F a)
def EU : Prop := GR n m F ∧ ∀ a, Fc n m F a → MA n m F a
def SP : Prop := ∀ c, c + 1 < nf n m F → btw n m F (fa n m F 0) (fa n m F c) = 2 ^ rk n m F (fa n m F c)
def SQ : Prop := ∀ c, 0 < c → c < nf n m F → btw n m F (fa n m F c) (2 ^ n - 1) = 2 ^ (rk n m F (2 ^ n - 1) - rk n m F (fa n m F c))
variable {n m F}
theorem LatR.sz {x : OX3} (h : LatR n m F x) : q3_size x = nI (nf n m F) := h.2.2.1.1
theorem eX3_gradedIn {x : OX3} (hn : n ≤ 8) (h : LatR n m F x) {c : Nat} (hc : c < nf n m F) : ∃ q, lp (fX3_graded_L12 x (nI c)) lpN 0 = some q ∧ ((q = .inl (nI (c + 1)) ∧ GA n m F (fa n m F c)) ∨ (q = .inr 0 ∧ ¬ GA n m F (fa n m F c))) := by
  have h8 := p2_256 hn
  have hnf := nf_256 (m := m) (F := F) hn
  have hf := fa_fc (m := m) (F := F) hn hc
  have hf1 := hf.1
  have b0 := rk_8 hn hf
  refine lp_inv (fun p v => v = nI p ∧ ∀ p', p' < p → cbB n m F (fa n m F c) p' = true → rk n m F (cl n m F (fa n m F c ||| 2 ^ p')) = rk n m F (fa n m F c) + 1) _ n ⟨rfl, fun p hp => absurd hp (Nat.not_lt_zero p)⟩ (fun p v hp hI => ?_) (fun v hI => ?_) (lpN_gt (by omega))
  · obtain ⟨rfl, hI⟩ := hI
    have hoc : okI (nI c) 256 = true := p_ok (by omega) (by decide)
    have hcl := fc_cl n m F (fa n m F c ||| 2 ^ p)
    have hcl1 := hcl.1
    have b1 := rk_8 hn hcl
    unfold fX3_graded_L12
    rw [h.1.1, if_neg (nI_ge hp (by omega)), ck_t hoc, h.2.2.1.f hc hnf, bd_s (eX3_coverBy hn h.1.1 h.cl hf1 hp), p_s1]
    have next : (cbB n m F (fa n m F c) p = true → rk n m F (cl n m F (fa n m F c ||| 2 ^ p)) = rk n m F (fa n m F c) + 1) → ∃ s', (some (Sum.inl (nI (p + 1))) : Option (Int32 ⊕ (Int32 ⊕ Int32))) = some (.inl s') ∧ s' = nI (p + 1) ∧ ∀ p', p' < p + 1 → cbB n m F (fa n m F c) p' = true → rk n m F (cl n m F (fa n m F c ||| 2 ^ p')) = rk n m F (fa n m F c) + 1 := fun hx => by
      refine ⟨_, rfl, rfl, fun p' hp' g => ?_⟩
      by_cases e : p' = p
      · rw [e] at g ⊢; exact hx g
      · exact hI p' (by omega) g
    rcases bool_ft (cbB n m F (fa n m F c) p) with g | g
    · rw [if_bf g, if_pos rfl]
      exact Or.inl (next fun z => by rw [g] at z; cases z)
    · rw [if_pos g, if_neg (by rw [p_nm1 (by omega)]; exact id), ck_t (p_ok (by omega) (by decide)), ck_t hoc, ck_t (p_ok (by omega) (by decide)), p_ix (by omega), p_ix (by omega : fa n m F c < 2147483648)]
      by_cases e : rk n m F (cl n m F (fa n m F c ||| 2 ^ p)) = rk n m F (fa n m F c) + 1
      · rw [if_pos (by rw [h.2.1 _ hcl, h.2.1 _ hf, p_s1, e])]
        exact Or.inl (next fun _ => e)
      · rw [if_neg (by rw [h.2.1 _ hcl, h.2.1 _ hf, p_s1, p_eq (by omega) (by omega)]; exact e)]
        refine Or.inr ⟨_, rfl, Or.inr ⟨rfl, fun z => e (z _ hcl ?_)⟩⟩
        unfold cbB at g
        rw [Bool.and_eq_true] at g
        exact cvB_t.mp g.2
  · obtain ⟨rfl, hI⟩ := hI
    unfold fX3_graded_L12
    rw [h.1.1, if_pos (nI_le (Nat.le_refl n) (by omega)), p_s1]
    refine ⟨_, rfl, Or.inl ⟨rfl, fun u fu hu => ?_⟩⟩
    obtain ⟨y1, y2, y3⟩ := cv_lw hn fu.1 hu
    have := hI _ y1 (by unfold cbB; rw [y3, Bool.and_eq_true, beq_t, cvB_t]; exact ⟨rfl, hu⟩)
    rw [y3] at this
    exact this
theorem eX3_graded {x : OX3} (hn : n ≤ 8) (h : LatR n m F x) : ∃ v, fX3_graded x = some v ∧ YN v (GR n m F) := by
  have hnf := nf_256 (m := m) (F := F) hn
  unfold fX3_graded
  refine lp_inv (fun c v => v = nI c ∧ ∀ j, j < c → GA n m F (fa n m F j)) _ (nf n m F) ⟨rfl, fun j hj => absurd hj (Nat.not_lt_zero j)⟩ (fun c v hc hI => ?_) (fun v hI => ?_) (lpN_gt (by omega))
  · obtain ⟨rfl, hI⟩ := hI
    unfold fX3_graded_L2
    rw [h.sz, if_neg (nI_ge hc (by omega))]
    obtain ⟨q, q1, q2⟩ := eX3_gradedIn hn h hc
    rcases q2 with ⟨rfl, q2⟩ | ⟨rfl, q2⟩
    · refine Or.inl ⟨_, q1, rfl, fun j hj => ?_⟩
      by_cases e : j = c
      · rw [e]; exact q2
      · exact hI j (by omega)
    · exact Or.inr ⟨_, q1, Or.inr ⟨rfl, fun z => q2 (z _ (fa_fc hn hc))⟩⟩
  · obtain ⟨rfl, hI⟩ := hI
    unfold fX3_graded_L2
    rw [h.sz, if_pos (nI_le (Nat.le_refl _) (by omega))]
    refine ⟨_, rfl, Or.inl ⟨rfl, fun a ha => ?_⟩⟩
    have := hI _ (ni_lt hn ha)
    rw [fa_ni hn ha] at this
    exact this
theorem eX7_isGradedNow {o : OX7} (hv : IncV n m F) (hN : NowR n m F (q7_now o)) (hL : q7_isLaid o = 0 ∨ LdR n m F o) : ∃ z, fX7_isGradedNow o = some z ∧ YN z.1 (GR n m F) ∧ LdR n m F z.2 := by
  have hn := hv.2.1
  have hnf := nf_256 (m := m) (F := F) hn
  obtain ⟨q, e, hq⟩ := eX7_lay hv hN hL
  have hfm : q7_faceMany q = nI (nf n m F) := hq.2.2.2.1
  unfold fX7_isGradedNow
  rw [bd_s e]
  refine lp_inv (fun f v => v = nI f ∧ ∀ i, i < f → ∀ j, j < i → Cv n m F (fa n m F j) (fa n m F i) → rk n m F (fa n m F i) = rk n m F (fa n m F j) + 1) _ (nf n m F) ⟨rfl, fun i hi => absurd hi (Nat.not_lt_zero i)⟩ (fun f v hf hI => ?_) (fun v hI => ?_) (lpN_gt (by omega))
  · obtain ⟨rfl, hI⟩ := hI
    unfold fX7_isGradedNow_L6
    rw [if_neg (by rw [hfm]; exact nI_ge hf (by omega))]
    have key : ∃ z, lp (fX7_isGradedNow_L16 o q (nI f)) lpN 0 = some z ∧ ((z = .inl (nI (f + 1)) ∧ ∀ j, j < f → Cv n m F (fa n m F j) (fa n m F f) → rk n m F (fa n m F f) = rk n m F (fa n m F j) + 1) ∨ (∃ y, z = .inr y ∧ YN y.1 (GR n m F) ∧ LdR n m F y.2)) := by
      refine lp_inv (fun g v => v = nI g ∧ ∀ j, j < g → Cv n m F (fa n m F j) (fa n m F f) → rk n m F (fa n m F f) = rk n m F (fa n m F j) + 1) _ f ⟨rfl, fun i hi => absurd hi (Nat.not_lt_zero i)⟩ (fun g v hg hI => ?_) (fun v hI => ?_) (lpN_gt (by omega))
      · obtain ⟨rfl, hI⟩ := hI
        have b1 := rk_8 hn (fa_fc (m := m) (F := F) hn hf)
        have b2 := rk_8 hn (fa_fc (m := m) (F := F) hn (k := g) (by omega))
        unfold fX7_isGradedNow_L16
        rw [if_neg (nI_ge hg (by omega)), bd_s (eX7_covers hn ?hlaid hf (by omega)), bd_s (eX7_rankAt hn ?hlaid2 hf), bd_s (eX7_rankAt hn ?hlaid3 (show g < nf n m F by omega)), p_s1, p_s1, ifq (by omega) (by omega)]
        case hlaid => exact hq.2
        case hlaid2 => exact hq.2
        case hlaid3 => exact hq.2
        by_cases c : Cv n m F (fa n m F g) (fa n m F f)
        · rw [if0_t (cvB_t.mpr c)]
          by_cases e2 : rk n m F (fa n m F f) = rk n m F (fa n m F g) + 1
          · rw [if_pos e2]
            refine Or.inl ⟨_, rfl, rfl, fun j hj cj => ?_⟩
            by_cases e3 : j = g
            · rw [e3]; exact e2
            · exact hI j (by omega) cj
          · rw [if_neg e2]
            exact Or.inr ⟨_, rfl, Or.inr ⟨_, rfl, Or.inr ⟨rfl, fun z => e2 (z _ (fa_fc hn (by omega)) _ (fa_fc hn hf) c)⟩, hq⟩⟩
        · rw [if0_f (cvB_f c)]
          refine Or.inl ⟨_, rfl, rfl, fun j hj cj => ?_⟩
          by_cases e3 : j = g
          · rw [e3] at cj; exact absurd cj c
          · exact hI j (by omega) cj
      · obtain ⟨rfl, hI⟩ := hI
        unfold fX7_isGradedNow_L16
        rw [if_pos (nI_le (Nat.le_refl f) (by omega)), p_s1]
        exact ⟨_, rfl, Or.inl ⟨rfl, hI⟩⟩
    obtain ⟨z, k1, k2⟩ := key
    rcases k2 with ⟨rfl, k2⟩ | ⟨y, rfl, k2⟩
    · refine Or.inl ⟨_, k1, rfl, fun i hi j hj cj => ?_⟩
      by_cases e3 : i = f
      · rw [e3] at hj cj ⊢; exact k2 j hj cj
      · exact hI i (by omega) j hj cj
    · exact Or.inr ⟨_, k1, k2⟩
  · obtain ⟨rfl, hI⟩ := hI
    unfold fX7_isGradedNow_L6
    rw [if_pos (by rw [hfm]; exact nI_le (Nat.le_refl _) (by omega))]
    refine ⟨_, rfl, Or.inl ⟨rfl, fun a ha u hu c => ?_⟩, hq⟩
    have h1 := ni_lt hn ha
    have h2 := ni_lt hn hu
    have h3 := fa_lt hn h2 ha (by rw [fa_ni hn hu]; exact c.1) (by rw [fa_ni hn hu]; exact c.2.1)
    have := hI _ h2 _ h3 (by rw [fa_ni hn hu, fa_ni hn ha]; exact c)
    rw [fa_ni hn hu, fa_ni hn ha] at this
    exact this
variable {o : OX6} {r : OX7}
theorem sk_35 (h : Rel o r) : SK_35 Rel o r := by
  obtain ⟨n, m, F, hv, hi, hl, hN, hL, hH, hS, hT⟩ := h
  obtain ⟨v, e6, y6⟩ := eX3_graded hv.2.1 hl
  obtain ⟨⟨z1, z2⟩, e7, y7, hq⟩ := eX7_isGradedNow (o := s7_thrown r 0) hv hN hL
  dsimp only at y7 hq
  unfold SK_35 fX6_isGraded fX7_isGraded
  rw [bd_s e6, bd_s e7, ck_t y6.ok]
  dsimp only
  rw [ck_t y7.ok]
  exact ⟨_, _, rfl, rfl, y6.eq y7, n, m, F, hv, hi, hl, hN, Or.inr hq, hH, hS, hT⟩
theorem fl_map : (List.range (nf n m F)).map (fa n m F) = fl n m F := by
  refine List.ext_getElem (by rw [List.length_map, List.length_range]; rfl) fun i h1 h2 => ?_
  rw [List.getElem_map, List.getElem_range, fa_get h2]
theorem lsum_flT (R : Nat) : lsum (flT n m F R) (fun s => sgn (rk n m F s)) = itn (fun k d => d + sgn k * nI (flR n m F k (2 ^ n)).length) 0 R := by
  induction R with
  | zero => rfl
  | succ R ih =>
    rw [flT_s, lsum_append, ih]
    show _ = itn _ 0 R + sgn R * nI (flR n m F R (2 ^ n)).length
    congr 1
    have e : lsum (flR n m F R (2 ^ n)) (fun s => sgn (rk n m F s)) = lsum (flR n m F R (2 ^ n)) (fun _ => sgn R) := lsum_congr fun s hs => by rw [((mem_flR (Nat.le_refl _)).mp hs).2.2]
    rw [e]
    generalize flR n m F R (2 ^ n) = L
    induction L with
    | nil => exact Int32.mul_zero.symm
    | cons a L ih2 =>
      rw [lsum_cons, ih2, List.length_cons, ← p_s1, Int32.mul_add, Int32.mul_one, Int32.add_comm]
theorem sk_36 (h : Rel o r) : SK_36 Rel o r := by
  obtain ⟨n, m, F, hv, hi, hl, hN, hL, hH, hS, hT⟩ := h
  have hn := hv.2.1
  have hnf := nf_256 (m := m) (F := F) hn
  obtain ⟨q, e, hq⟩ := eX7_lay (o := s7_thrown r 0) hv hN hL
  have hfm : q7_faceMany q = nI (nf n m F) := hq.2.2.2.1
  have e6 : fX3_evenMinusOdd (q6_lattice o) = some (lsum (fl n m F) fun s => sgn (rk n m F s)) := by
    unfold fX3_evenMinusOdd
    refine lp_cnt (fun k d => (d, nI k)) (fun k d => d + sgn k * nI (flR n m F k (2 ^ n)).length) 0 9 (fun _ _ => True) trivial (fun k d hk _ => ⟨?_, trivial⟩) (fun _ => ?_) (lpN_gt (by omega))
    · unfold fX3_evenMinusOdd_L4
      dsimp only
      rw [if_neg (show ¬ (8 : Int32) < nI k from nI_nlt (a := 8) (b := k) (by omega) (by omega)), bd_s (eX3_signOf (by omega)), ck_t (p_ok hk (by decide)), p_ix (by omega), hl.2.2.2 k hk, p_s1]
    · unfold fX3_evenMinusOdd_L4
      dsimp only
      rw [if_pos (show (8 : Int32) < nI 9 from nI_lt (a := 8) (b := 9) (by omega) (by omega)), ← lsum_flT]
      rfl
  unfold SK_36 fX6_alternating fX7_alternating
  rw [bd_s e6, bd_s e]
  refine sk_lp (lp_cntE (fun k d => (d, nI k)) (fun t d => d + sgn (rk n m F (fa n m F t))) 0 (nf n m F) (fun _ _ => True) trivial (fun t d ht _ => ⟨?_, trivial⟩) (fun _ => ?_) (lpN_gt (by omega)))
  · unfold fX7_alternating_L13
    dsimp only
    have b := rk_8 hn (fa_fc (m := m) (F := F) hn ht)
    rw [if_neg (by rw [hfm]; exact nI_ge ht (by omega)), bd_s (eX7_rankAt hn ?hlaid ht), sg_if (by omega), p_s1]
    case hlaid => exact hq.2
    unfold sgn
    by_cases g : rk n m F (fa n m F t) % 2 = 0
    · rw [if_pos g, if_pos g]
    · rw [if_neg g, if_neg g]
  · unfold fX7_alternating_L13
    dsimp only
    rw [if_pos (by rw [hfm]; exact nI_le (Nat.le_refl _) (by omega))]
    refine ⟨_, rfl, ?_, n, m, F, hv, hi, hl, hN, Or.inr hq, hH, hS, hT⟩
    show _ = itn (fun t d => d + sgn (rk n m F (fa n m F t))) 0 (nf n m F)
    rw [← fl_map, lsum_map]
    have hr : ∀ k, lsum (List.range k) (fun t => sgn (rk n m F (fa n m F t))) = itn (fun t d => d + sgn (rk n m F (fa n m F t))) 0 k := fun k => by
      induction k with
      | zero => rfl
      | succ k ih => rw [lsum_range, ih]; rfl
    exact hr _
end KD

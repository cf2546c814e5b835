/-! a facet's statement, read on both sides -/
theorem lp_st {σ ρ : Type} {body : σ → Option (σ ⊕ ρ)} {a a' : σ} (f : Nat) (h : body a = some (.inl a')) : lp body (f + 1) a = lp body f a' := by
  show (body a).bind _ = _
  rw [h]; rfl
theorem lp_ed {σ ρ : Type} {body : σ → Option (σ ⊕ ρ)} {a : σ} {r : ρ} (f : Nat) (h : body a = some (.inr r)) : lp body (f + 1) a = some r := by
  show (body a).bind _ = _
  rw [h]; rfl
/-- two loops side by side; the second may go one round more before it leaves -/
theorem lp_two {σ τ ρ κ : Type} {A : σ → Option (σ ⊕ ρ)} {D : τ → Option (τ ⊕ κ)} (Inv : Nat → σ → τ → Prop) (Post : ρ → κ → Prop) (N : Nat) (hs : ∀ k a b, k < N → Inv k a b → (∃ a' b', A a = some (.inl a') ∧ D b = some (.inl b') ∧ Inv (k + 1) a' b') ∨ (∃ ra rb, A a = some (.inr ra) ∧ (D b = some (.inr rb) ∨ ∃ b', D b = some (.inl b') ∧ D b' = some (.inr rb)) ∧ Post ra rb)) (he : ∀ a b, ¬ Inv N a b) : ∀ d k a b fa fb, k + d = N → d ≤ fa → d + 1 ≤ fb → Inv k a b → ∃ ra rb, lp A fa a = some ra ∧ lp D fb b = some rb ∧ Post ra rb := by
  intro d
  induction d with
  | zero =>
    intro k a b fa fb hk _ _ hI
    rw [show k = N by omega] at hI
    exact absurd hI (he a b)
  | succ d ih =>
    intro k a b fa fb hk hfa hfb hI
    obtain ⟨fa', rfl⟩ : ∃ m, fa = m + 1 := ⟨fa - 1, by omega⟩
    obtain ⟨fb', rfl⟩ : ∃ m, fb = m + 2 := ⟨fb - 2, by omega⟩
    rcases hs k a b (by omega) hI with ⟨a', b', h1, h2, h3⟩ | ⟨ra, rb, h1, h2, h3⟩
    · obtain ⟨ra, rb, g1, g2, g3⟩ := ih (k + 1) a' b' fa' (fb' + 1) (by omega) (by omega) (by omega) h3
      exact ⟨ra, rb, (lp_st fa' h1).trans g1, (lp_st (fb' + 1) h2).trans g2, g3⟩
    · refine ⟨ra, rb, lp_ed fa' h1, ?_, h3⟩
      rcases h2 with h2 | ⟨b', h2, h4⟩
      · exact lp_ed (fb' + 1) h2
      · exact (lp_st (fb' + 1) h2).trans (lp_ed fb' h4)
section FA1
variable {L : Nat} {B : Nat → Nat}
def PtOk (B : Nat → Nat) (n set k s e : Nat) : Prop := NumOk k s e ∧ dv B s (e - s) < n ∧ set.testBit (dv B s (e - s)) = false
theorem eX7_point55 {r : OX7} (hL : L ≤ 300) (hB : ∀ j, j < L → B j < 256) {k s e : Nat} (hc : RS L B r k s e) (h : TkP L B k s e) {n : Nat} (hn1 : 1 ≤ n) (hn : n ≤ 8) (hM : q7_made r (ix 0) = nI n) {k1 s1 e1 : Nat} (h1 : Tok L B e k1 s1 e1) : ((NumOk k s e ∧ dv B s (e - s) < n) → ∃ y, fX7_takePoint_J55 r (q7_wrong r) = some y ∧ y.1 = nI (dv B s (e - s)) ∧ T7 B y.2 k1 s1 e1 ∧ q7_wrong y.2 = -1) ∧ (¬ (NumOk k s e ∧ dv B s (e - s) < n) → ∃ y, fX7_takePoint_J55 r (q7_wrong r) = some y ∧ y.1 = 0 ∧ q7_wrong y.2 = nI s) ∧ ∃ y, fX7_takePoint_J55 r (nI s) = some y ∧ y.1 = 0 ∧ q7_wrong y.2 = nI s := by
  obtain ⟨l1, l2, l3⟩ := h.le
  have hn1b : nI n - 1 = nI (n - 1) := p_sub (b := 1) hn1
  have hc2 : RS L B (s7_wrong r (q7_wrong r)) k s e := hc
  obtain ⟨t1, t2⟩ := eX7_takeNumber hL hB hc2 h (lo := 0) (hi := n - 1) (by decide) (by omega)
  refine ⟨fun g => ?_, fun g => ?_, ?_⟩
  · obtain ⟨z, z1, z2, z3⟩ := t1 ⟨g.1, Nat.zero_le _, by have := g.2; omega⟩ k1 s1 e1 h1
    have z1' : fX7_takeNumber (s7_wrong r (q7_wrong r)) 0 (nI (n - 1)) = some (nI (dv B s (e - s)), z) := z1
    unfold fX7_takePoint_J55
    rw [hM, hn1b, bd_s z1']
    exact ⟨_, rfl, rfl, z2, z3⟩
  · obtain ⟨z, z1, z2⟩ := t2 fun q => g ⟨q.1, by have := q.2.2; omega⟩
    have z1' : fX7_takeNumber (s7_wrong r (q7_wrong r)) 0 (nI (n - 1)) = some (nI 0, z) := z1
    unfold fX7_takePoint_J55
    rw [hM, hn1b, bd_s z1']
    exact ⟨_, rfl, rfl, z2⟩
  · have e0 : fX7_takeNumber (s7_wrong r (nI s)) 0 (nI (n - 1)) = some (0, s7_wrong (s7_wrong r (nI s)) (nI s)) := by
      unfold fX7_takeNumber fX7_takeNumber_J40 fX7_fail
      rw [bd_s (good_0 (x := s) (by omega) rfl), if_pos rfl, if_pos (show (0 : Int32) ≤ q7_wrong (s7_wrong r (nI s)) from nI_pos' (by omega))]
      rfl
    unfold fX7_takePoint_J55
    rw [hM, hn1b, bd_s e0]
    exact ⟨_, rfl, rfl, rfl⟩
theorem eX7_takePoint {r : OX7} (hL : L ≤ 300) (hB : ∀ j, j < L → B j < 256) {k s e : Nat} (hc : RS L B r k s e) (h : TkP L B k s e) {n set : Nat} (hn1 : 1 ≤ n) (hn : n ≤ 8) (hM : q7_made r (ix 0) = nI n) (hset : set < 256) {k1 s1 e1 : Nat} (h1 : Tok L B e k1 s1 e1) : ∃ y, fX7_takePoint r (nI set) = some y ∧ ((PtOk B n set k s e ∧ y.1 = nI (dv B s (e - s)) ∧ T7 B y.2 k1 s1 e1 ∧ q7_wrong y.2 = -1) ∨ (¬ PtOk B n set k s e ∧ y.1 = 0 ∧ q7_wrong y.2 = nI s)) := by
  obtain ⟨l1, l2, l3⟩ := h.le
  obtain ⟨p1, p2, p3⟩ := eX7_point55 hL hB hc h hn1 hn hM h1
  obtain ⟨ht, ⟨h2, h3, h4, h5⟩, hwr⟩ := id hc
  obtain ⟨_, _, r2, _⟩ := rkd_i l3
  have hsub : q7_at r - q7_from r = nI (e - s) := by rw [h3, h4, p_sub l1]
  have no : ¬ (NumOk k s e ∧ dv B s (e - s) < n) → ∃ y, fX7_takePoint_J55 r (q7_wrong r) = some y ∧ ((PtOk B n set k s e ∧ y.1 = nI (dv B s (e - s)) ∧ T7 B y.2 k1 s1 e1 ∧ q7_wrong y.2 = -1) ∨ (¬ PtOk B n set k s e ∧ y.1 = 0 ∧ q7_wrong y.2 = nI s)) := fun g => by
    obtain ⟨y, y1, y2, y3⟩ := p2 g
    exact ⟨y, y1, Or.inr ⟨fun q => g ⟨q.1, q.2.1⟩, y2, y3⟩⟩
  unfold fX7_takePoint
  rw [hsub]
  by_cases g1 : k = 2
  · rw [if_pos (show q7_kind r = 2 by rw [h2, r2.mpr g1]; rfl)]
    by_cases g2 : e - s ≤ 4
    · have hlt := numOk_lt h ⟨g1, g2⟩
      rw [if_neg (show ¬ (4 : Int32) < nI (e - s) from nI_nlt (a := 4) g2 (by omega)), h5 g1 g2, hM, bd_s (eX7_in0 _ (by omega)), okI_nI (by omega)]
      by_cases g3 : dv B s (e - s) < n
      · rw [if0_t (decide_eq_true g3), bd_s (eX7_has (by omega) (by omega))]
        rcases bool_ft (set.testBit (dv B s (e - s))) with b | b
        · rw [if0_f b]
          obtain ⟨y, y1, y2⟩ := p1 ⟨⟨g1, g2⟩, g3⟩
          exact ⟨y, y1, Or.inl ⟨⟨⟨g1, g2⟩, g3, b⟩, y2⟩⟩
        · obtain ⟨y, y1, y2, y3⟩ := p3
          have hfail : fX7_fail r = some (s7_wrong r (nI s)) := by
            unfold fX7_fail
            rw [if_neg (by rw [hwr]; exact m1_n0), h3]
          rw [if0_t b, bd_s hfail]
          exact ⟨y, y1, Or.inr ⟨fun q => Bool.noConfusion (q.2.2.symm.trans b), y2, y3⟩⟩
      · rw [if0_f (decide_eq_false g3)]
        exact no fun q => g3 q.2
    · rw [if_pos (show (4 : Int32) < nI (e - s) from nI_lt (a := 4) (by omega) (by omega))]
      exact no fun q => g2 q.1.2
  · rw [if_neg (show ¬ q7_kind r = 2 by rw [h2]; exact fun z => g1 (r2.mp ((nI_eq (b := 2) (by omega) (by decide)).mp z)))]
    exact no fun q => g1 q.1.1
theorem pc_add {s p : Nat} (hp : p < 8) (h : s.testBit p = false) : pc (s ||| 2 ^ p) = pc s + 1 := by
  rw [pc_cnt, pc_cnt]
  have key : ∀ k, cnt (fun i => (s ||| 2 ^ p).testBit i) k = cnt (fun i => s.testBit i) k + if p < k then 1 else 0 := by
    intro k
    induction k with
    | zero => rfl
    | succ k ih =>
      rw [cnt_s, cnt_s, ih, Nat.testBit_or, Nat.testBit_two_pow]
      by_cases e : p = k
      · subst e
        rw [h, decide_eq_true rfl, if_neg (by omega : ¬ p < p), if_pos (by omega : p < p + 1)]
        rfl
      · rw [decide_eq_false e, Bool.or_false]
        by_cases g : p < k
        · rw [if_pos g, if_pos (by omega : p < k + 1)]
          split <;> omega
        · rw [if_neg g, if_neg (by omega : ¬ p < k + 1)]
          split <;> omega
  rw [key 8, if_pos hp]
theorem eX5_point {t0 t : OX5} {o1 : OX2} (hL : L ≤ 300) (hB : ∀ j, j < L → B j < 256) (ht : TB L B t0) {k s e : Nat} (h : TkP L B k s e) {n set c : Nat} (hn : n ≤ 8) (ho : q2_points o1 = nI n) (hset : set < 256) {k1 s1 e1 : Nat} (h1 : Tok L B e k1 s1 e1) : (PtOk B n set k s e → fX5_readFacet_J46 t0 o1 (nI set, nI c, nI k, nI s, nI e) = some (.inl (nI (set ||| 2 ^ dv B s (e - s)), nI (c + 1), nI k1, nI s1, nI e1))) ∧ (¬ PtOk B n set k s e → fX5_readFacet_J46 t0 o1 (nI set, nI c, nI k, nI s, nI e) = some (.inr (0, (s5_end (s5_start (s5_kind t0 (nI k)) (nI s)) (nI e)), o1))) := by
  obtain ⟨n1, n2⟩ := eX5_numberHere (t := s5_end (s5_start (s5_kind t0 (nI k)) (nI s)) (nI e)) hL hB ⟨ht, rfl, rfl, rfl⟩ h
  obtain ⟨z, z1, z2⟩ := eX5_advance (t := s5_end (s5_start (s5_kind t0 (nI k)) (nI s)) (nI e)) hL hB ht rfl h1
  unfold fX5_readFacet_J46
  dsimp only
  by_cases g : NumOk k s e
  · have hlt := numOk_lt h g
    rw [bd_s (n1 g), if_neg (nI_pos (by omega)), ho]
    by_cases g1 : dv B s (e - s) < n
    · rw [if_neg (nI_ge g1 (by omega)), p_bit1 (by omega) (by omega)]
      rcases bool_ft (set.testBit (dv B s (e - s))) with b | b
      · rw [if1_f b, bd_s z1, p_shl1 (by omega), p_or, p_s1, z2.1, z2.2.1, z2.2.2]
        exact ⟨fun _ => rfl, fun q => absurd ⟨g, g1, b⟩ q⟩
      · rw [if1_t b]
        exact ⟨fun q => Bool.noConfusion (q.2.2.symm.trans b), fun _ => rfl⟩
    · rw [if_pos (nI_le (by omega) (by omega))]
      exact ⟨fun q => absurd q.2.1 g1, fun _ => rfl⟩
  · rw [bd_s (n2 g), if_pos (by decide : (-1 : Int32) < 0)]
    exact ⟨fun q => absurd q.1 g, fun _ => rfl⟩
/-- what a facet's statement leaves on both sides -/
def FaP (L : Nat) (B : Nat → Nat) (e0 n : Nat) (z : Int32 × OX5 × OX2) (w : OX7) : Prop := (z.1 = 0 ∧ ∃ x, x ≤ L ∧ q5_start z.2.1 = nI x ∧ q7_wrong w = nI x) ∨ (z.1 = 1 ∧ ∃ k s e l, T5 z.2.1 k s e ∧ T7 B w k s e ∧ q7_wrong w = -1 ∧ TkP L B k s e ∧ e0 ≤ s ∧ List.length l ≤ 10 ∧ (∀ a, a ∈ l → a < 2 ^ n) ∧ IncL n l z.2.2 ∧ MadeL n l (q7_made w))
theorem facet_both {t : OX5} {y : OX2} {r : OX7} (hL : L ≤ 300) (hB : ∀ j, j < L → B j < 256) {k s e : Nat} (hc : CS L B t k s e) (hr : RS L B r k s e) (h : TkP L B k s e) {n : Nat} {l : List Nat} (hn1 : 1 ≤ n) (hn : n ≤ 8) (hl : l.length ≤ 10) (hle : ∀ a, a ∈ l → a < 2 ^ n) (hy : IncL n l y) (hm : MadeL n l (q7_made r)) : ∃ z w, fX5_readFacet t y = some z ∧ fX7_readFacet r = some w ∧ FaP L B e n z w := by
  have h8 := p2_256 hn
  obtain ⟨l1, l2, l3⟩ := h.le
  obtain ⟨k1, s1, e1, h1⟩ := tok_ex L B l2
  have hk1 : TkP L B k1 s1 e1 := ⟨e, h1⟩
  obtain ⟨l4, l5, l6⟩ := hk1.le
  have hs1 : e ≤ s1 := h1.1
  obtain ⟨k2, s2, e2, h2⟩ := tok_ex L B l5
  obtain ⟨v5, p5, q5⟩ := eX5_isHere hL hc h (w := 5) (by decide)
  obtain ⟨u5, a5, b5⟩ := eX7_isWord hL hr h (w := 5) (by decide)
  have e5 := q5.eq b5
  subst e5
  have hJ20 : fX7_readFacet_J20 r = some (s7_wrong r (nI s)) := by
    unfold fX7_readFacet_J20 fX7_fail
    rw [if_neg (by rw [hr.2.2]; exact m1_n0), hr.2.1.2.1]
    rfl
  unfold fX5_readFacet fX7_readFacet
  rw [bd_s p5, bd_s a5, hJ20]
  have bad : FaP L B e n (0, t, y) (s7_wrong r (nI s)) := Or.inl ⟨rfl, s, by omega, hc.2.2.1, rfl⟩
  rcases q5 with ⟨rfl, q5⟩ | ⟨rfl, q5⟩
  · rw [if_neg n10, if_neg n10, hy.2.1, hm.m]
    by_cases g : l.length = 10
    · rw [if_neg (show ¬ nI l.length < 10 from nI_nlt (b := 10) (by omega) (by omega)), if_pos (show nI l.length = 10 by rw [g]; rfl)]
      exact ⟨_, _, rfl, rfl, bad⟩
    · have hl9 : l.length < 10 := by omega
      obtain ⟨z, z1, z2⟩ := eX5_advance hL hB hc.1 hc.2.2.2 h1
      obtain ⟨w, w1, w2⟩ := eX7_step hL hB hr.1 hr.2.1.2.2.1 h1
      have hcw : RS L B (s7_number (s7_kind (s7_from (s7_at r (q7_at w)) (q7_from w)) (q7_kind w)) (q7_number w)) k1 s1 e1 := ⟨hr.1, w2, hr.2.2⟩
      obtain ⟨x, x1, x2⟩ := eX7_takePoint (set := 0) hL hB hcw hk1 hn1 hn (by exact hm.n) (by decide) h2
      have x1' : fX7_takePoint (s7_number (s7_kind (s7_from (s7_at r (q7_at w)) (q7_from w)) (q7_kind w)) (q7_number w)) 0 = some x := x1
      obtain ⟨f1, f2⟩ := eX5_point (t := t) (c := 0) hL hB hc.1 hk1 hn hy.1 (set := 0) (by decide) h2
      rw [if_pos (show nI l.length < 10 from nI_lt (b := 10) hl9 (by omega)), if_neg (show ¬ nI l.length = 10 from fun q => g ((nI_eq (b := 10) (by omega) (by decide)).mp q)), bd_s z1, z2.1, z2.2.1, z2.2.2, bd_s w1, bd_s x1']
      have c0 : fX5_readFacet_L28 t y (0, 0, nI k1, nI s1, nI e1) = fX5_readFacet_J46 t y (nI 0, nI 0, nI k1, nI s1, nI e1) := by
        unfold fX5_readFacet_L28
        dsimp only
        rw [if_neg (by decide : ¬ (8 : Int32) < 0), if_pos rfl]
        rfl
      have bad2 : ∀ (b : Int32 × Int32 × Int32 × Int32 × Int32 × Int32) (x0 : Nat), x0 < 2147483648 → (∃ q, b.1 = nI q) → b.2.2.2.2.2 = nI x0 → ∃ w', fX7_readFacet_L37 r b = some (.inr w') ∧ q7_wrong w' = nI x0 := fun b x0 hx0 hb1 hb => by
        obtain ⟨q, hq⟩ := hb1
        unfold fX7_readFacet_L37 fX7_readFacet_J65
        rw [bd_s (good_0 (x := x0) hx0 hb), if_pos rfl, hq]
        refine ex_ex (Q := fun w' => q7_wrong w' = nI x0) (bd_ex (eX7_addE (by exact hm) hl9 q) (fun u hu => ?_))
        exact ⟨_, rfl, hb⟩
      rcases x2 with ⟨g1, g2, g3, g4⟩ | ⟨g1, g2, g3⟩
      · have hdv := g1.2.1
        have step1 : lp (fX5_readFacet_L28 t y) lpN (0, 0, nI k1, nI s1, nI e1) = lp (fX5_readFacet_L28 t y) 99999 (nI (0 ||| 2 ^ dv B s1 (e1 - s1)), nI (0 + 1), nI k2, nI s2, nI e2) := lp_st 99999 (c0.trans (f1 g1))
        rw [step1, g2, p_shl1 (by omega), g3.1, g3.2.1, g3.2.2.1, g4]
        refine lp_two (fun j a b => ∃ set k3 s3 e3 num, a = (nI set, nI (j + 1), nI k3, nI s3, nI e3) ∧ set < 2 ^ n ∧ pc set = j + 1 ∧ TkP L B k3 s3 e3 ∧ e ≤ s3 ∧ b = (nI set, nI e3, nI s3, nI (rkd k3), num, -1) ∧ (k3 = 2 → e3 - s3 ≤ 4 → num = nI (dv B s3 (e3 - s3)))) (FaP L B e n) 8 (fun j a b hj hI => ?_) (fun a b hI => ?_) 8 0 _ _ 99999 lpN rfl (by decide) (by decide) ?_
        · obtain ⟨set, k3, s3, e3, num, rfl, i1, i2, i3, i4, rfl, i5⟩ := hI
          obtain ⟨m1, m2, m3⟩ := i3.le
          obtain ⟨_, _, r2, _⟩ := rkd_i m3
          have hset0 : ¬ set = 0 := fun q => by
            rw [q] at i2
            have : pc 0 = 0 := by decide
            omega
          have hgood : fX7_isGood (s7_wrong (s7_number (s7_kind (s7_from (s7_at r (nI e3)) (nI s3)) (nI (rkd k3))) num) (-1)) = some 1 := good_1 rfl
          have cls : fX5_readFacet_L28 t y (nI set, nI (j + 1), nI k3, nI s3, nI e3) = if nI k3 = 2 then fX5_readFacet_J46 t y (nI set, nI (j + 1), nI k3, nI s3, nI e3) else ex (fX5_readFacet_J95 t y (nI set, nI (j + 1), nI k3, nI s3, nI e3)) := by
            unfold fX5_readFacet_L28
            dsimp only
            rw [if_neg (show ¬ (8 : Int32) < nI (j + 1) from nI_nlt (a := 8) (by omega) (by omega)), if_neg (show ¬ nI set = 0 by rw [p_eq0 (by omega)]; exact hset0)]
          by_cases z2 : k3 = 2
          · obtain ⟨k4, s4, e4, h4⟩ := tok_ex L B m2
            have hcv : RS L B (s7_wrong (s7_number (s7_kind (s7_from (s7_at r (nI e3)) (nI s3)) (nI (rkd k3))) num) (-1)) k3 s3 e3 := ⟨hr.1, ⟨rfl, rfl, rfl, i5⟩, rfl⟩
            obtain ⟨x', y1, y2⟩ := eX7_takePoint (set := set) hL hB hcv i3 hn1 hn (by exact hm.n) (by omega) h4
            obtain ⟨j1, j2⟩ := eX5_point (t := t) (c := j + 1) hL hB hc.1 i3 hn hy.1 (set := set) (by omega) h4
            have rf : fX7_readFacet_L37 r (nI set, nI e3, nI s3, nI (rkd k3), num, -1) = some (.inl (nI set ||| jshl 1 x'.1, q7_at x'.2, q7_from x'.2, q7_kind x'.2, q7_number x'.2, q7_wrong x'.2)) := by
              unfold fX7_readFacet_L37
              dsimp only
              rw [bd_s hgood, if_neg n10, if_pos (show nI (rkd k3) = 2 by rw [r2.mpr z2]; rfl), bd_s y1]
            rw [cls, if_pos (show nI k3 = 2 by rw [z2]; rfl)]
            rcases y2 with ⟨t1, t2, t3, t4⟩ | ⟨t1, t2, t3⟩
            · have hdv2 := t1.2.1
              refine Or.inl ⟨_, _, j1 t1, rf, set ||| 2 ^ dv B s3 (e3 - s3), k4, s4, e4, q7_number x'.2, rfl, or_p2 i1 hdv2, ?_, ⟨e3, h4⟩, by have := h4.1; omega, ?_, t3.2.2.2⟩
              · rw [pc_add (by omega) t1.2.2, i2]
              · rw [t2, p_shl1 (by omega), p_or, t3.1, t3.2.1, t3.2.2.1, t4]
            · obtain ⟨w', w3, w4⟩ := bad2 (nI set ||| jshl 1 x'.1, q7_at x'.2, q7_from x'.2, q7_kind x'.2, q7_number x'.2, q7_wrong x'.2) s3 (by omega) ⟨set ||| 1, by rw [t2]; exact p_or set 1⟩ t3
              exact Or.inr ⟨_, w', j2 t1, Or.inr ⟨_, rf, w3⟩, Or.inl ⟨rfl, s3, by omega, rfl, w4⟩⟩
          · have hk3 : ¬ nI k3 = 2 := fun q => z2 ((nI_eq (b := 2) (by omega) (by decide)).mp q)
            have hrk3 : ¬ nI (rkd k3) = 2 := fun q => z2 (r2.mp ((nI_eq (b := 2) (by omega) (by decide)).mp q))
            obtain ⟨z5, c1, c2⟩ := eX2_addL hy hl9 set
            have hJ95 : fX5_readFacet_J95 t y (nI set, nI (j + 1), nI k3, nI s3, nI e3) = some (1, (s5_end (s5_start (s5_kind t (nI k3)) (nI s3)) (nI e3)), (s2_facets (s2_sets y (q2_sets z5)) (q2_facets z5))) := by
              unfold fX5_readFacet_J95
              dsimp only
              rw [bd_s c1]
            have hJ65 : ∃ w', fX7_readFacet_L37 r (nI set, nI e3, nI s3, nI (rkd k3), num, -1) = some (.inr w') ∧ T7 B w' k3 s3 e3 ∧ q7_wrong w' = -1 ∧ MadeL n (l ++ [set]) (q7_made w') := by
              unfold fX7_readFacet_L37 fX7_readFacet_J65
              dsimp only
              rw [bd_s hgood, if_neg n10, if_neg hrk3]
              refine ex_ex (Q := fun w' => T7 B w' k3 s3 e3 ∧ q7_wrong w' = -1 ∧ MadeL n (l ++ [set]) (q7_made w')) (bd_ex (eX7_addE (by exact hm) hl9 set) (fun u hu => ?_))
              exact ⟨_, rfl, ⟨rfl, rfl, rfl, i5⟩, rfl, hu⟩
            obtain ⟨w', c3, c4, c5, c6⟩ := hJ65
            rw [cls, if_neg hk3, hJ95]
            refine Or.inr ⟨_, w', rfl, Or.inl c3, Or.inr ⟨rfl, k3, s3, e3, l ++ [set], ⟨rfl, rfl, rfl⟩, c4, c5, i3, i4, by rw [List.length_append, List.length_singleton]; omega, fun a ha => ?_, ⟨hy.1, c2.2.1, c2.2.2⟩, c6⟩⟩
            rcases List.mem_append.mp ha with q | q
            · exact hle a q
            · rw [List.mem_singleton] at q
              rw [q]; exact i1
        · obtain ⟨set, k3, s3, e3, num, _, _, i2, _⟩ := hI
          have := pc_le set
          omega
        · refine ⟨0 ||| 2 ^ dv B s1 (e1 - s1), k2, s2, e2, q7_number x.2, rfl, or_p2 (p2_pos n) hdv, ?_, ⟨e1, h2⟩, by have := h2.1; omega, ?_, g3.2.2.2⟩
          · rw [pc_add (by omega) (Nat.zero_testBit _)]; decide
          · rw [Nat.zero_or]
      · have hbad := f2 g1
        obtain ⟨w', w3, w4⟩ := bad2 (jshl 1 x.1, q7_at x.2, q7_from x.2, q7_kind x.2, q7_number x.2, q7_wrong x.2) s1 (by omega) ⟨1, (congrArg (jshl 1) g2).trans (by decide : jshl 1 0 = nI 1)⟩ g3
        exact ⟨_, w', lp_ed 99999 (c0.trans hbad), lp_ed 99999 w3, Or.inl ⟨rfl, s1, by omega, rfl, w4⟩⟩
  · rw [if_pos rfl, if_pos rfl]
    exact ⟨_, _, rfl, rfl, bad⟩
end FA1

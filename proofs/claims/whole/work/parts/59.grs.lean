/-! steps and diameters in the class's graph; the reference's neighbours and steps -/
section GS
variable {A : Nat → Nat → Bool} {N : Nat}
/-- the first step from a towards b -/
def FS (A : Nat → Nat → Bool) (N a b : Nat) (v : Int32) : Prop := (∃ d k, LX A N a (d + 1) b ∧ k < N ∧ A a k = true ∧ LX A N k d b ∧ (∀ j, j < k → A a j = true → ¬ LX A N j d b) ∧ v = nI k) ∨ (v = -1 ∧ ∀ d, ¬ LX A N a (d + 1) b)
theorem fs_u {a b : Nat} {v w : Int32} (h : FS A N a b v) (g : FS A N a b w) : v = w := by
  rcases h with ⟨d, k, h1, h2, h3, h4, h5, h6⟩ | ⟨h1, h2⟩ <;> rcases g with ⟨e, l, g1, g2, g3, g4, g5, g6⟩ | ⟨g1, g2⟩
  · have := lx_u h1 g1
    have hd : d = e := by omega
    subst hd
    rcases Nat.lt_trichotomy k l with q | q | q
    · exact absurd h4 (g5 k q h3)
    · rw [h6, g6, q]
    · exact absurd g4 (h5 l q g3)
  · exact absurd h1 (g2 d)
  · exact absurd g1 (h2 e)
  · rw [h1, g1]
theorem lx_f {a b d : Nat} (ha : a < N) (hb : b < N) (h : LX A N a (d + 1) b) : ∃ k, k < N ∧ A a k = true ∧ LX A N k d b := by
  obtain ⟨i, h1, h2, h3⟩ := (re_f ha d b hb).mp h.1
  rcases h2 with h2 | h2
  · subst h2; exact absurd h3 (h.2 d (by omega))
  · refine ⟨i, h1, h2, h3, fun e he z => ?_⟩
    exact h.2 (e + 1) (by omega) ((re_f ha e b hb).mpr ⟨i, h1, Or.inr h2, z⟩)
theorem dv_l {a b d : Nat} {v : Int32} (h : DV A N a b v) (hd : d < 2147483648) (hN : N ≤ 10) : v = nI d ↔ LX A N a d b := by
  rcases h with ⟨e, h1, h2, h3⟩ | ⟨h1, h2⟩
  · rw [h3]
    refine ⟨fun z => ?_, fun z => by rw [lx_u h2 z]⟩
    have := (nI_eq (by omega) hd).mp z
    rw [← this]; exact h2
  · rw [h1]
    refine ⟨fun z => ?_, fun z => absurd z.1 (h2 d)⟩
    have h3 : (nI d = -1) = False := p_nm1 hd
    exact absurd z.symm (fun q => h3 ▸ q)
theorem eX0_firstStep {g : OX0} (hN : N ≤ 10) (h : GrR A N g) {a b : Nat} (ha : a < N) (hb : b < N) : ∃ v, fX0_firstStep g (nI a) (nI b) = some v ∧ FS A N a b v := by
  have h10 := p2_lt hN
  obtain ⟨r1, l1, l2⟩ := eX0_length hN h ha hb
  unfold fX0_firstStep
  rw [bd_s l1]
  by_cases hd : ∃ d, LX A N a (d + 1) b
  · obtain ⟨d, hd⟩ := hd
    have hdN := lx_N ha hd
    have hr : r1 = nI (d + 1) := (dv_l l2 (by omega) hN).mpr hd
    have hr1 : r1 - 1 = nI d := by rw [hr]; exact nI_pred d
    refine lp_inv (fun k v => v = nI k ∧ ∀ j, j < k → A a j = true → ¬ LX A N j d b) _ N ⟨rfl, fun j hj => absurd hj (Nat.not_lt_zero j)⟩ (fun k v hk hI => ?_) (fun v hI => ?_) (lpN_gt (by omega))
    · obtain ⟨rfl, hI⟩ := hI
      have hnb := nbs_lt A N a
      obtain ⟨w, w1, w2⟩ := eX0_length hN h hk hb
      unfold fX0_firstStep_L12
      rw [h.1, if_neg (nI_ge hk (by omega)), hr1, if_neg (nI_pos (by omega)), ck_t (p_ok (by omega) (by decide)), p_ix (by omega), h.2 a ha, p_bit1 (by omega) (by omega), tb_nbs, decide_eq_true hk, Bool.true_and, bd_s w1, p_s1]
      have next : (A a k = true → ¬ LX A N k d b) → ∃ s', (some (Sum.inl (nI (k + 1))) : Option (Int32 ⊕ Int32)) = some (.inl s') ∧ s' = nI (k + 1) ∧ ∀ j, j < k + 1 → A a j = true → ¬ LX A N j d b := fun hx => by
        refine ⟨_, rfl, rfl, fun j hj hA => ?_⟩
        by_cases e : j = k
        · rw [e] at hA ⊢; exact hx hA
        · exact hI j (by omega) hA
      rcases bool_ft (A a k) with c | c
      · rw [if1_f c]
        exact Or.inl (next fun z => Bool.noConfusion (c.symm.trans z))
      · rw [if1_t c]
        by_cases q : w = nI d
        · rw [if_pos q]
          exact Or.inr ⟨_, rfl, Or.inl ⟨d, k, hd, hk, c, (dv_l w2 (by omega) hN).mp q, hI, rfl⟩⟩
        · rw [if_neg q]
          exact Or.inl (next fun _ z => q ((dv_l w2 (by omega) hN).mpr z))
    · obtain ⟨rfl, hI⟩ := hI
      obtain ⟨k, k1, k2, k3⟩ := lx_f ha hb hd
      exact absurd k3 (hI k k1 k2)
  · have hneg : (r1 - 1) < 0 := by
      rcases l2 with ⟨d, d1, d2, d3⟩ | ⟨d1, d2⟩
      · match d, d1, d2, d3 with
        | 0, _, _, d3 => rw [d3]; decide
        | d + 1, _, d2, _ => exact absurd ⟨d, d2⟩ hd
      · rw [d1]; decide
    refine lp_inv (fun k v => k = 0 ∧ v = 0) _ 1 ⟨rfl, rfl⟩ (fun k v hk hI => Or.inr ?_) (fun v hI => absurd hI.1 (by decide)) (lpN_gt (by omega))
    obtain ⟨rfl, rfl⟩ := hI
    unfold fX0_firstStep_L12
    rw [h.1, if_neg (nI_nle (by omega) (by omega)), if_pos hneg]
    exact ⟨_, rfl, Or.inr ⟨rfl, fun d z => hd ⟨d, z⟩⟩⟩
/-- the greatest distance -/
def GL (A : Nat → Nat → Bool) (N : Nat) (v : Int32) : Prop := (v = -1 ∧ (N = 0 ∨ ∃ i j, i < N ∧ j < N ∧ ∀ d, ¬ RE A N i d j)) ∨ (∃ M, M < N ∧ v = nI M ∧ (∀ i j, i < N → j < N → ∃ d, d ≤ M ∧ LX A N i d j) ∧ ∃ i j, i < N ∧ j < N ∧ LX A N i M j)
theorem gl_u {v w : Int32} (h : GL A N v) (g : GL A N w) : v = w := by
  rcases h with ⟨h1, h2⟩ | ⟨M, h1, h2, h3, i, j, h4, h5, h6⟩ <;> rcases g with ⟨g1, g2⟩ | ⟨L, g1, g2, g3, i', j', g4, g5, g6⟩
  · rw [h1, g1]
  · rcases h2 with h2 | ⟨i, j, a, b, c⟩
    · omega
    · obtain ⟨d, _, d2⟩ := g3 i j a b
      exact absurd d2.1 (c d)
  · rcases g2 with g2 | ⟨i, j, a, b, c⟩
    · omega
    · obtain ⟨d, _, d2⟩ := h3 i j a b
      exact absurd d2.1 (c d)
  · obtain ⟨d, d1, d2⟩ := g3 i j h4 h5
    obtain ⟨e, e1, e2⟩ := h3 i' j' g4 g5
    have := lx_u d2 h6
    have := lx_u e2 g6
    rw [h2, g2]
    congr 1
    omega
theorem lx_00 (a : Nat) : LX A N a 0 a := ⟨re_0.mpr rfl, fun d hd => absurd hd (Nat.not_lt_zero d)⟩
theorem eX0_greatestLength {g : OX0} (hN : N ≤ 10) (h : GrR A N g) (hs : ∀ i j, A i j = true → A j i = true) : ∃ v, fX0_greatestLength g = some v ∧ GL A N v := by
  unfold fX0_greatestLength
  rcases Nat.eq_zero_or_pos N with z | z
  · rw [h.1, if_pos (by rw [z]; decide)]
    unfold fX0_greatestLength_J12
    refine lp_inv (fun k v => k = 0 ∧ v = (-1, 0)) _ 1 ⟨rfl, rfl⟩ (fun k v hk hI => Or.inr ?_) (fun v hI => absurd hI.1 (by decide)) (lpN_gt (by omega))
    obtain ⟨rfl, rfl⟩ := hI
    unfold fX0_greatestLength_L15
    dsimp only
    rw [h.1, if_pos (by rw [z]; decide)]
    exact ⟨_, rfl, Or.inl ⟨rfl, Or.inl z⟩⟩
  · rw [h.1, if_neg (nI_nle z (by omega))]
    unfold fX0_greatestLength_J12
    refine lp_inv (fun i v => v.2 = nI i ∧ ∃ M, M < N ∧ v.1 = nI M ∧ (∀ a b, a < i → b < a → ∃ d, d ≤ M ∧ LX A N a d b) ∧ ∃ a b, a < N ∧ b < N ∧ LX A N a M b) _ N ⟨rfl, 0, z, rfl, fun a b ha => absurd ha (Nat.not_lt_zero a), 0, 0, z, z, lx_00 0⟩ (fun i v hi hI => ?_) (fun v hI => ?_) (lpN_gt (by omega))
    · obtain ⟨v1, v2⟩ := v
      obtain ⟨h1, M, m1, m2, m3, m4⟩ := hI
      dsimp only at h1 m2
      subst h1 m2
      unfold fX0_greatestLength_L15
      dsimp only
      rw [h.1, if_neg (nI_ge hi (by omega))]
      have key : ∃ q, lp (fX0_greatestLength_L25 g (nI M, nI i)) lpN (nI M, 0) = some q ∧ ((∃ M', M' < N ∧ q = .inl (nI M', nI (i + 1)) ∧ (∀ a b, a < i + 1 → b < a → ∃ d, d ≤ M' ∧ LX A N a d b) ∧ ∃ a b, a < N ∧ b < N ∧ LX A N a M' b) ∨ (q = .inr (-1) ∧ ∃ a b, a < N ∧ b < N ∧ ∀ d, ¬ RE A N a d b)) := by
        refine lp_inv (fun j v => v.2 = nI j ∧ ∃ M', M' < N ∧ M ≤ M' ∧ v.1 = nI M' ∧ (∀ b, b < j → ∃ d, d ≤ M' ∧ LX A N i d b) ∧ ∃ a b, a < N ∧ b < N ∧ LX A N a M' b) _ i ⟨rfl, M, m1, Nat.le_refl M, rfl, fun b hb => absurd hb (Nat.not_lt_zero b), m4⟩ (fun j v hj hI => ?_) (fun v hI => ?_) (lpN_gt (by omega))
        · obtain ⟨v1, v2⟩ := v
          obtain ⟨h1, M', n1, n2, n3, n4, n5⟩ := hI
          dsimp only at h1 n3
          subst h1 n3
          obtain ⟨w, w1, w2⟩ := eX0_length hN h hi (b := j) (by omega)
          unfold fX0_greatestLength_L25
          dsimp only
          rw [if_neg (nI_ge hj (by omega)), bd_s w1, p_s1]
          rcases w2 with ⟨d, d1, d2, rfl⟩ | ⟨rfl, d2⟩
          · rw [if_neg (by rw [p_nm1 (by omega)]; exact id), p_max (by omega) (by omega)]
            refine Or.inl ⟨_, rfl, rfl, max M' d, by omega, by omega, rfl, fun b hb => ?_, ?_⟩
            · by_cases e : b = j
              · rw [e]; exact ⟨d, by omega, d2⟩
              · obtain ⟨e1, e2, e3⟩ := n4 b (by omega)
                exact ⟨e1, by omega, e3⟩
            · rcases Nat.le_total M' d with q | q
              · rw [Nat.max_eq_right q]; exact ⟨i, j, hi, by omega, d2⟩
              · rw [Nat.max_eq_left q]; exact n5
          · rw [if_pos rfl]
            exact Or.inr ⟨_, rfl, Or.inr ⟨rfl, i, j, hi, by omega, d2⟩⟩
        · obtain ⟨v1, v2⟩ := v
          obtain ⟨h1, M', n1, n2, n3, n4, n5⟩ := hI
          dsimp only at h1 n3
          subst h1 n3
          unfold fX0_greatestLength_L25
          dsimp only
          rw [if_pos (nI_le (Nat.le_refl i) (by omega)), p_s1]
          refine ⟨_, rfl, Or.inl ⟨M', n1, rfl, fun a b ha hb => ?_, n5⟩⟩
          by_cases e : a = i
          · rw [e] at hb ⊢; exact n4 b hb
          · obtain ⟨e1, e2, e3⟩ := m3 a b (by omega) hb
            exact ⟨e1, by omega, e3⟩
      obtain ⟨q, k1, k2⟩ := key
      rcases k2 with ⟨M', n1, rfl, n2, n3⟩ | ⟨rfl, n1⟩
      · exact Or.inl ⟨_, k1, rfl, M', n1, rfl, n2, n3⟩
      · exact Or.inr ⟨_, k1, Or.inl ⟨rfl, Or.inr n1⟩⟩
    · obtain ⟨v1, v2⟩ := v
      obtain ⟨h1, M, m1, m2, m3, m4⟩ := hI
      dsimp only at h1 m2
      subst h1 m2
      unfold fX0_greatestLength_L15
      dsimp only
      rw [h.1, if_pos (nI_le (Nat.le_refl N) (by omega))]
      refine ⟨_, rfl, Or.inr ⟨M, m1, rfl, fun i j hi hj => ?_, m4⟩⟩
      rcases Nat.lt_trichotomy i j with q | q | q
      · obtain ⟨d, d1, d2⟩ := m3 j i hj q
        exact ⟨d, d1, lx_sym hs hj hi d2⟩
      · rw [q]; exact ⟨0, Nat.zero_le _, lx_00 j⟩
      · exact m3 i j hi q
variable {n m : Nat} {F : Nat → Nat}
def ndN (n m : Nat) (p : Int32) : Nat := if p = 0 then n else m
def ndA (n m : Nat) (F : Nat → Nat) (p : Int32) : Nat → Nat → Bool := if p = 0 then adP n m F else adF n m F
theorem ndN_10 (hv : IncV n m F) (p : Int32) : ndN n m p ≤ 10 := by
  have h1 := hv.2.1
  have h2 := hv.2.2.1
  unfold ndN
  split <;> omega
theorem ndA_s (p : Int32) (i j : Nat) (h : ndA n m F p i j = true) : ndA n m F p j i = true := by
  unfold ndA at h ⊢
  split at h
  · rename_i q; rw [if_pos q]; exact adP_s n m F i j h
  · rename_i q; rw [if_neg q]; exact adF_s n m F i j h
theorem eX6_linkGraph {o : OX6} (hv : IncV n m F) (hi : IncR n m F (q6_now o)) (hl : LatR n m F (q6_lattice o)) (p : Int32) : ∃ g, fX6_linkGraph o p = some ((q6_text o), (q6_history o), (q6_lattice o), g, (q6_matching o), (q6_now o), (q6_saved o), (q6_next o), (q6_hasSaved o)) ∧ GrR (ndA n m F p) (ndN n m p) g := by
  unfold fX6_linkGraph ndA ndN
  by_cases e : p = 0
  · obtain ⟨g, g1, g2⟩ := eX0_linkPoints (g := q6_graph o) hv hi hl
    rw [if_pos e, bd_s g1, if_pos e, if_pos e]
    exact ⟨_, rfl, g2⟩
  · obtain ⟨g, g1, g2⟩ := eX0_linkFacets (g := q6_graph o) hv hi hl
    rw [if_neg e, bd_s g1, if_neg e, if_neg e]
    exact ⟨_, rfl, g2⟩
theorem eX6_checkNode {o : OX6} (hv : IncV n m F) (hi : IncR n m F (q6_now o)) (x p : Int32) : fX6_checkNode o x p = if okI x (ndN n m p) = true then some (.inr 0) else some (.inl 2) := by
  unfold fX6_checkNode ndN
  by_cases e : p = 0
  · rw [if_pos e, if_pos e, eX6_checkPoint hv hi]
    cases okI x n <;> rfl
  · rw [if_neg e, if_neg e, eX6_checkFacet hv hi]
    cases okI x m <;> rfl
theorem eX7_isOne {o : OX7} (hv : IncV n m F) (hN : NowR n m F (q7_now o)) (x p : Int32) : fX7_isOne o x p = some (nI (okI x (ndN n m p)).toNat) := by
  unfold fX7_isOne ndN
  by_cases e : p = 0
  · rw [if_pos e, if_pos e, bd_s (eX7_isPoint hv hN x), ck_t (bi_t _)]
  · rw [if_neg e, if_neg e, bd_s (eX7_isFacet hv hN x), ck_t (bi_t _)]
theorem eX7_near {o : OX7} (hv : IncV n m F) (hN : NowR n m F (q7_now o)) (hL : q7_isLaid o = 0 ∨ LdR n m F o) (p : Int32) {x : Nat} (hx : x < ndN n m p) : ∃ q, fX7_near o (nI x) p = some (nI (nbs (ndA n m F p) (ndN n m p) x), q) ∧ LdR n m F q := by
  have hn := hv.2.1
  have h8 := p2_256 hn
  have hm := hv.2.2.1
  obtain ⟨q, e, hq⟩ := eX7_lay hv hN hL
  unfold fX7_near ndA
  unfold ndN at hx ⊢
  by_cases z : p = 0
  · rw [if_pos z] at hx
    rw [if_pos z, if_pos z, if_pos z]
    have key : ∃ y, fX7_pointNeighbours o (nI x) = some y ∧ y.1 = nI (nbs (adP n m F) n x) ∧ LdR n m F y.2 := by
      unfold fX7_pointNeighbours
      rw [bd_s e]
      refine lp_cntE (fun k s => (nI s, nI k)) (fun k s => if adP n m F x k = true then s ||| 2 ^ k else s) 0 n (fun _ _ => True) trivial (fun k s hk _ => ⟨?_, trivial⟩) (fun _ => ?_) (lpN_gt (by omega))
      · have hb : 2 ^ x ||| 2 ^ k < 2 ^ n := or_p2 (Nat.pow_lt_pow_right (by decide) hx) hk
        unfold fX7_pointNeighbours_L8
        dsimp only
        rw [hN.n, if_neg (nI_ge hk (by omega)), ifq (by omega) (by omega), p_s1, p_shl1 (by omega), p_shl1 (by omega), p_or, ck_t (p_ok (by omega) (by decide)), p_ix (by omega), hq.2.1 _ hb, Int32.or_zero, p_or]
        have hcl := cl_lt n m F (2 ^ x ||| 2 ^ k)
        by_cases e1 : k = x
        · rw [if_pos e1, e1, adP_r, if_neg Bool.false_ne_true]
        · have hA : adP n m F x k = fcB n m F (2 ^ x ||| 2 ^ k) := by
            unfold adP
            rw [nbeq_f (fun z => e1 z.symm)]; rfl
          rw [if_neg e1, hA, ifq (by omega) (by omega)]
          unfold fcB
          by_cases e2 : cl n m F (2 ^ x ||| 2 ^ k) = 2 ^ x ||| 2 ^ k
          · rw [if_pos e2, if_pos (beq_t.mpr e2)]
          · rw [if_neg e2, if_bf (nbeq_f e2)]
      · unfold fX7_pointNeighbours_L8
        dsimp only
        rw [hN.n, if_pos (nI_le (Nat.le_refl n) (by omega))]
        exact ⟨_, rfl, rfl, hq⟩
    obtain ⟨⟨y1, y2⟩, k1, k2, k3⟩ := key
    dsimp only at k2 k3
    subst k2
    rw [bd_s k1]
    exact ⟨_, rfl, k3⟩
  · rw [if_neg z] at hx
    rw [if_neg z, if_neg z, if_neg z]
    have key : ∃ y, fX7_facetNeighbours o (nI x) = some y ∧ y.1 = nI (nbs (adF n m F) m x) ∧ LdR n m F y.2 := by
      unfold fX7_facetNeighbours
      rw [bd_s e, ck_t (ok12 (by omega))]
      refine lp_cntE (fun k s => (nI s, nI k)) (fun k s => if adF n m F x k = true then s ||| 2 ^ k else s) 0 m (fun _ _ => True) trivial (fun k s hk _ => ⟨?_, trivial⟩) (fun _ => ?_) (lpN_gt (by omega))
      · have hfx := hv.2.2.2 x hx
        have hfk := hv.2.2.2 k hk
        have hand : F x &&& F k < 2 ^ n := Nat.lt_of_le_of_lt Nat.and_le_left hfx
        unfold fX7_facetNeighbours_L18
        dsimp only
        rw [hN.m, if_neg (nI_ge hk (by omega)), ck_t (ok12 (by omega)), hN.f hx hm, hN.f hk hm, p_and, ifq (by omega) (by omega), p_s1, bd_s (eX7_isCover hn ?hc hfx hand), bd_s (eX7_isCover hn ?hc2 hfk hand), Int32.or_zero, p_shl1 (by omega), p_or]
        case hc => exact hq.2.1
        case hc2 => exact hq.2.1
        unfold adF
        by_cases e1 : F x = F k
        · rw [if_pos e1, beq_t.mpr e1, Bool.not_true, Bool.false_and, if_neg Bool.false_ne_true]
        · rw [if_neg e1, nbeq_f e1, Bool.not_false, Bool.true_and]
          rcases bool_ft (cvB n m F (F x &&& F k) (F x)) with b | b
          · rw [if0_f b, b, Bool.false_and, if_neg Bool.false_ne_true]
          · rw [if0_t b, b, Bool.true_and]
            rcases bool_ft (cvB n m F (F x &&& F k) (F k)) with b2 | b2
            · rw [if0_f b2, if_bf b2]
            · rw [if0_t b2, if_pos b2]
      · unfold fX7_facetNeighbours_L18
        dsimp only
        rw [hN.m, if_pos (nI_le (Nat.le_refl m) (by omega))]
        exact ⟨_, rfl, rfl, hq⟩
    obtain ⟨⟨y1, y2⟩, k1, k2, k3⟩ := key
    dsimp only at k2 k3
    subst k2
    rw [bd_s k1]
    exact ⟨_, rfl, k3⟩
end GS

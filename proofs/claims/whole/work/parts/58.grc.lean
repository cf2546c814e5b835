/-! the class's graph -/
def LnP (Q : Nat → Nat → Prop) (T : Nat → Int32) : Prop := ∀ i, i < 10 → ∃ x, T i = nI x ∧ x < 1024 ∧ ∀ j, x.testBit j = true ↔ Q i j
def GrR (A : Nat → Nat → Bool) (N : Nat) (g : OX0) : Prop := q0_size g = nI N ∧ ∀ p, p < N → q0_nextTo g p = nI (nbs A N p)
theorem LnP.cg {Q Q' : Nat → Nat → Prop} {T : Nat → Int32} (h : LnP Q T) (e : ∀ i j, Q i j ↔ Q' i j) : LnP Q' T := fun i hi => by
  obtain ⟨x, h1, h2, h3⟩ := h i hi
  exact ⟨x, h1, h2, fun j => (h3 j).trans (e i j)⟩
theorem eX0_fill (T : Nat → Int32) : ∃ T', fJ7_fill_53178 T 0 = some T' ∧ ∀ i, i < 10 → T' i = 0 := by
  unfold fJ7_fill_53178
  refine lp_inv (fun k v => v.1 = nI k ∧ ∀ i, i < k → v.2 i = 0) _ 10 ⟨rfl, fun i hi => absurd hi (Nat.not_lt_zero i)⟩ (fun k v hk hI => Or.inl ?_) (fun v hI => ?_) (lpN_gt (by omega))
  · obtain ⟨vk, T⟩ := v
    obtain ⟨h1, h2⟩ := hI
    dsimp only at h1 h2
    subst h1
    unfold fJ7_fill_53178_L5
    dsimp only
    rw [if_neg (show ¬ (10 : Int32) ≤ nI k from nI_ge (b := 10) hk (by omega)), ck_t (p_ok (by omega) (by decide)), p_s1, p_ix (by omega)]
    refine ⟨_, rfl, rfl, fun i hi => ?_⟩
    show upd T k 0 i = 0
    by_cases e : i = k
    · rw [e, upd_at]
    · rw [upd_ne _ _ e]; exact h2 i (by omega)
  · obtain ⟨vk, T⟩ := v
    obtain ⟨h1, h2⟩ := hI
    dsimp only at h1 h2
    subst h1
    unfold fJ7_fill_53178_L5
    dsimp only
    rw [if_pos (show (10 : Int32) ≤ nI 10 from nI_le (a := 10) (Nat.le_refl 10) (by omega))]
    exact ⟨_, rfl, h2⟩
theorem or_bit {Q : Nat → Prop} {x p : Nat} (hx : x < 1024) (hp : p < 10) (h : ∀ j, x.testBit j = true ↔ Q j) : x ||| 2 ^ p < 1024 ∧ ∀ j, (x ||| 2 ^ p).testBit j = true ↔ Q j ∨ j = p := by
  refine ⟨Nat.or_lt_two_pow (n := 10) hx (Nat.pow_lt_pow_right (by decide) hp), fun j => ?_⟩
  rw [Nat.testBit_or, Bool.or_eq_true, h, Nat.testBit_two_pow, decide_eq_true_eq]
  exact or_congr Iff.rfl ⟨fun e => e.symm, fun e => e.symm⟩
theorem eX0_link {Q : Nat → Nat → Prop} {T : Nat → Int32} (g : OX0) (h : LnP Q T) {p q : Nat} (hp : p < 10) (hq : q < 10) (hne : p ≠ q) : ∃ T', fX0_link (s0_nextTo g T) (nI p) (nI q) = some (s0_nextTo g T') ∧ LnP (fun i j => Q i j ∨ (i = p ∧ j = q) ∨ (i = q ∧ j = p)) T' := by
  obtain ⟨x, x1, x2, x3⟩ := h p hp
  obtain ⟨y, y1, y2, y3⟩ := h q hq
  have okp : okI (nI p) 10 = true := p_ok hp (by decide)
  have okq : okI (nI q) 10 = true := p_ok hq (by decide)
  unfold fX0_link
  rw [ck_t okp, ck_t okp, ck_t okq, ck_t okq, p_ix (by omega), p_ix (by omega), p_shl1 (by omega), p_shl1 (by omega), upd_ne _ _ (fun e => hne e.symm), show q0_nextTo (s0_nextTo g T) = T from rfl, x1, y1, p_or, p_or]
  refine ⟨_, rfl, fun i hi => ?_⟩
  by_cases e1 : i = q
  · subst e1
    obtain ⟨b1, b2⟩ := or_bit y2 hp y3
    refine ⟨_, upd_at _ _ _, b1, fun j => (b2 j).trans ?_⟩
    constructor
    · rintro (z | z)
      · exact Or.inl z
      · exact Or.inr (Or.inr ⟨rfl, z⟩)
    · rintro (z | ⟨z, _⟩ | ⟨_, z⟩)
      · exact Or.inl z
      · exact absurd z.symm hne
      · exact Or.inr z
  · by_cases e2 : i = p
    · subst e2
      obtain ⟨b1, b2⟩ := or_bit x2 hq x3
      refine ⟨_, (upd_ne _ _ e1).trans (upd_at _ _ _), b1, fun j => (b2 j).trans ?_⟩
      constructor
      · rintro (z | z)
        · exact Or.inl z
        · exact Or.inr (Or.inl ⟨rfl, z⟩)
      · rintro (z | ⟨_, z⟩ | ⟨z, _⟩)
        · exact Or.inl z
        · exact Or.inr z
        · exact absurd z e1
    · obtain ⟨w, w1, w2, w3⟩ := h i hi
      refine ⟨w, ((upd_ne _ _ e1).trans (upd_ne _ _ e2)).trans w1, w2, fun j => (w3 j).trans ?_⟩
      exact ⟨Or.inl, fun z => by
        rcases z with z | ⟨z, _⟩ | ⟨z, _⟩
        · exact z
        · exact absurd z e2
        · exact absurd z e1⟩
section GC
variable {A : Nat → Nat → Bool} {N : Nat}
/-- the pairs linked so far: all below p, and p with those below q -/
def QP (A : Nat → Nat → Bool) (p q i j : Nat) : Prop := (i < p ∧ j < p ∧ A i j = true) ∨ (i = p ∧ j < q ∧ A p j = true) ∨ (j = p ∧ i < q ∧ A p i = true)
theorem qp_0 (p i j : Nat) : QP A p 0 i j ↔ i < p ∧ j < p ∧ A i j = true := by
  unfold QP
  constructor
  · rintro (h | ⟨_, h, _⟩ | ⟨_, h, _⟩)
    · exact h
    · exact absurd h (Nat.not_lt_zero _)
    · exact absurd h (Nat.not_lt_zero _)
  · exact Or.inl
theorem qp_y {p q : Nat} (h : A p q = true) (i j : Nat) : (QP A p q i j ∨ (i = p ∧ j = q) ∨ (i = q ∧ j = p)) ↔ QP A p (q + 1) i j := by
  unfold QP
  constructor
  · rintro ((z | ⟨a, b, c⟩ | ⟨a, b, c⟩) | ⟨a, b⟩ | ⟨a, b⟩)
    · exact Or.inl z
    · exact Or.inr (Or.inl ⟨a, by omega, c⟩)
    · exact Or.inr (Or.inr ⟨a, by omega, c⟩)
    · exact Or.inr (Or.inl ⟨a, by omega, by rw [b]; exact h⟩)
    · exact Or.inr (Or.inr ⟨b, by omega, by rw [a]; exact h⟩)
  · rintro (z | ⟨a, b, c⟩ | ⟨a, b, c⟩)
    · exact Or.inl (Or.inl z)
    · by_cases e : j = q
      · exact Or.inr (Or.inl ⟨a, e⟩)
      · exact Or.inl (Or.inr (Or.inl ⟨a, by omega, c⟩))
    · by_cases e : i = q
      · exact Or.inr (Or.inr ⟨e, a⟩)
      · exact Or.inl (Or.inr (Or.inr ⟨a, by omega, c⟩))
theorem qp_n {p q : Nat} (h : ¬ A p q = true) (i j : Nat) : QP A p q i j ↔ QP A p (q + 1) i j := by
  unfold QP
  constructor
  · rintro (z | ⟨a, b, c⟩ | ⟨a, b, c⟩)
    · exact Or.inl z
    · exact Or.inr (Or.inl ⟨a, by omega, c⟩)
    · exact Or.inr (Or.inr ⟨a, by omega, c⟩)
  · rintro (z | ⟨a, b, c⟩ | ⟨a, b, c⟩)
    · exact Or.inl z
    · by_cases e : j = q
      · rw [e] at c; exact absurd c h
      · exact Or.inr (Or.inl ⟨a, by omega, c⟩)
    · by_cases e : i = q
      · rw [e] at c; exact absurd c h
      · exact Or.inr (Or.inr ⟨a, by omega, c⟩)
theorem qp_p (hs : ∀ i j, A i j = true → A j i = true) (hr : ∀ i, A i i = false) (p i j : Nat) : QP A p p i j ↔ QP A (p + 1) 0 i j := by
  rw [qp_0]
  unfold QP
  constructor
  · rintro (⟨a, b, c⟩ | ⟨a, b, c⟩ | ⟨a, b, c⟩)
    · exact ⟨by omega, by omega, c⟩
    · exact ⟨by omega, by omega, by rw [a]; exact c⟩
    · exact ⟨by omega, by omega, by rw [a]; exact hs _ _ c⟩
  · rintro ⟨a, b, c⟩
    by_cases e1 : i = p
    · by_cases e2 : j = p
      · rw [e1, e2, hr] at c; cases c
      · rw [e1] at c; exact Or.inr (Or.inl ⟨e1, by omega, c⟩)
    · by_cases e2 : j = p
      · rw [e2] at c; exact Or.inr (Or.inr ⟨e2, by omega, hs _ _ c⟩)
      · exact Or.inl ⟨by omega, by omega, c⟩
theorem gr_end {T : Nat → Int32} {g : OX0} (hN : N ≤ 10) (hg : q0_size g = nI N) (h : LnP (QP A N 0) T) : GrR A N (s0_nextTo g T) := by
  refine ⟨hg, fun p hp => ?_⟩
  obtain ⟨x, h1, h2, h3⟩ := h p (by omega)
  show T p = _
  rw [h1]
  congr 1
  refine nbs_ext fun i => (h3 i).trans ((qp_0 N p i).trans ⟨fun z => z.2, fun z => ⟨hp, z⟩⟩)
theorem ln_0 {T : Nat → Int32} (h : ∀ i, i < 10 → T i = 0) : LnP (QP A 0 0) T := fun i hi => ⟨0, h i hi, by decide, fun j => by
  rw [Nat.zero_testBit, qp_0]
  exact ⟨fun z => (by cases z), fun z => absurd z.1 (Nat.not_lt_zero i)⟩⟩
/-- neighbours among the points, among the facets -/
def adP (n m : Nat) (F : Nat → Nat) (p q : Nat) : Bool := !Nat.beq p q && fcB n m F (2 ^ p ||| 2 ^ q)
def adF (n m : Nat) (F : Nat → Nat) (f g : Nat) : Bool := !Nat.beq (F f) (F g) && (cvB n m F (F f &&& F g) (F f) && cvB n m F (F f &&& F g) (F g))
theorem beq_sym (a b : Nat) : Nat.beq a b = Nat.beq b a := by
  by_cases h : a = b
  · rw [h]
  · rw [nbeq_f h, nbeq_f (fun z => h z.symm)]
theorem adP_s (n m : Nat) (F : Nat → Nat) (i j : Nat) (h : adP n m F i j = true) : adP n m F j i = true := by
  unfold adP at h ⊢
  rw [beq_sym, Nat.or_comm]; exact h
theorem adP_r (n m : Nat) (F : Nat → Nat) (i : Nat) : adP n m F i i = false := by
  unfold adP
  rw [beq_t.mpr rfl]; rfl
theorem adF_s (n m : Nat) (F : Nat → Nat) (i j : Nat) (h : adF n m F i j = true) : adF n m F j i = true := by
  unfold adF at h ⊢
  rw [beq_sym, Nat.and_comm, Bool.and_comm (cvB n m F (F i &&& F j) (F j))]; exact h
theorem adF_r (n m : Nat) (F : Nat → Nat) (i : Nat) : adF n m F i i = false := by
  unfold adF
  rw [beq_t.mpr rfl]; rfl
variable {n m : Nat} {F : Nat → Nat}
theorem eX0_linkPoints {g : OX0} {y : OX2} {x : OX3} (hv : IncV n m F) (hy : IncR n m F y) (h : LatR n m F x) : ∃ g', fX0_linkPoints g y x = some g' ∧ GrR (adP n m F) n g' := by
  have hn := hv.2.1
  obtain ⟨T0, t1, t2⟩ := eX0_fill (q0_nextTo g)
  unfold fX0_linkPoints fX0_clear
  rw [bd_s t1, Option.bind_some, hy.1]
  refine lp_inv (fun p v => v.1 = nI p ∧ LnP (QP (adP n m F) p 0) v.2) _ n ⟨rfl, ln_0 t2⟩ (fun p v hp hI => Or.inl ?_) (fun v hI => ?_) (lpN_gt (by omega))
  · obtain ⟨vp, T⟩ := v
    obtain ⟨h1, h2⟩ := hI
    dsimp only at h1 h2
    subst h1
    unfold fX0_linkPoints_L10
    dsimp only
    rw [if_neg (nI_ge hp (by omega))]
    have key : ∃ z, lp (fX0_linkPoints_L21 x (s0_size (s0_nextTo g T0) (nI n)) (nI p, T)) lpN (0, T) = some z ∧ ∃ T', z = .inl (nI (p + 1), T') ∧ LnP (QP (adP n m F) (p + 1) 0) T' := by
      refine lp_inv (fun q v => v.1 = nI q ∧ LnP (QP (adP n m F) p q) v.2) _ p ⟨rfl, h2⟩ (fun q v hq hI => Or.inl ?_) (fun v hI => ?_) (lpN_gt (by omega))
      · obtain ⟨vq, S⟩ := v
        obtain ⟨h3, h4⟩ := hI
        dsimp only at h3 h4
        subst h3
        have hb : 2 ^ p ||| 2 ^ q < 2 ^ n := or_p2 (Nat.pow_lt_pow_right (by decide) hp) (by omega)
        unfold fX0_linkPoints_L21
        dsimp only
        rw [if_neg (nI_ge hq (by omega)), p_shl1 (by omega), p_shl1 (by omega), p_or, bd_s (eX3_isFace hn h.cl hb), p_s1]
        have hA : adP n m F p q = fcB n m F (2 ^ p ||| 2 ^ q) := by
          unfold adP
          rw [nbeq_f (by omega)]; rfl
        rcases bool_ft (fcB n m F (2 ^ p ||| 2 ^ q)) with b | b
        · rw [if0_f b]
          exact ⟨_, rfl, rfl, h4.cg (qp_n (by rw [hA, b]; exact Bool.false_ne_true))⟩
        · obtain ⟨S', s1, s2⟩ := eX0_link (s0_size (s0_nextTo g T0) (nI n)) h4 (p := p) (q := q) (by omega) (by omega) (by omega)
          rw [if0_t b, bd_s s1]
          exact ⟨_, rfl, rfl, s2.cg (qp_y (by rw [hA]; exact b))⟩
      · obtain ⟨vq, S⟩ := v
        obtain ⟨h3, h4⟩ := hI
        dsimp only at h3 h4
        subst h3
        unfold fX0_linkPoints_L21
        dsimp only
        rw [if_pos (nI_le (Nat.le_refl p) (by omega)), p_s1]
        exact ⟨_, rfl, S, rfl, h4.cg (qp_p (adP_s n m F) (adP_r n m F) p)⟩
    obtain ⟨z, k1, T', rfl, k2⟩ := key
    exact ⟨_, k1, rfl, k2⟩
  · obtain ⟨vp, T⟩ := v
    obtain ⟨h1, h2⟩ := hI
    dsimp only at h1 h2
    subst h1
    unfold fX0_linkPoints_L10
    dsimp only
    rw [if_pos (nI_le (Nat.le_refl n) (by omega))]
    exact ⟨_, rfl, gr_end (g := s0_size (s0_nextTo g T0) (nI n)) (by omega) rfl h2⟩
theorem eX0_linkFacets {g : OX0} {y : OX2} {x : OX3} (hv : IncV n m F) (hy : IncR n m F y) (h : LatR n m F x) : ∃ g', fX0_linkFacets g y x = some g' ∧ GrR (adF n m F) m g' := by
  have hn := hv.2.1
  have h8 := p2_256 hn
  have hm := hv.2.2.1
  obtain ⟨T0, t1, t2⟩ := eX0_fill (q0_nextTo g)
  unfold fX0_linkFacets fX0_clear
  rw [bd_s t1, Option.bind_some, hy.2.1]
  refine lp_inv (fun p v => v.1 = nI p ∧ LnP (QP (adF n m F) p 0) v.2) _ m ⟨rfl, ln_0 t2⟩ (fun p v hp hI => Or.inl ?_) (fun v hI => ?_) (lpN_gt (by omega))
  · obtain ⟨vp, T⟩ := v
    obtain ⟨h1, h2⟩ := hI
    dsimp only at h1 h2
    subst h1
    unfold fX0_linkFacets_L10
    dsimp only
    rw [if_neg (nI_ge hp (by omega))]
    have key : ∃ z, lp (fX0_linkFacets_L21 y x (s0_size (s0_nextTo g T0) (nI m)) (nI p, T)) lpN (0, T) = some z ∧ ∃ T', z = .inl (nI (p + 1), T') ∧ LnP (QP (adF n m F) (p + 1) 0) T' := by
      refine lp_inv (fun q v => v.1 = nI q ∧ LnP (QP (adF n m F) p q) v.2) _ p ⟨rfl, h2⟩ (fun q v hq hI => Or.inl ?_) (fun v hI => ?_) (lpN_gt (by omega))
      · obtain ⟨vq, S⟩ := v
        obtain ⟨h3, h4⟩ := hI
        dsimp only at h3 h4
        subst h3
        have hfp := hv.2.2.2 p hp
        have hfq := hv.2.2.2 q (by omega)
        have hand : F p &&& F q < 2 ^ n := Nat.lt_of_le_of_lt Nat.and_le_left hfp
        have okp : okI (nI p) 10 = true := p_ok (by omega) (by decide)
        have okq : okI (nI q) 10 = true := p_ok (by omega) (by decide)
        unfold fX0_linkFacets_L21
        dsimp only
        rw [if_neg (nI_ge hq (by omega)), ck_t okp, ck_t okq, ck_t okp, ck_t okq, ck_t okp, ck_t okq, p_ix (by omega), p_ix (by omega), hy.2.2 p hp, hy.2.2 q (by omega), p_and, bd_s (eX3_isCover hn h.1.1 h.cl hfp hand), bd_s (eX3_isCover hn h.1.1 h.cl hfq hand), p_s1, ifq (by omega) (by omega)]
        have no : ¬ adF n m F p q = true → ∃ s', (some (Sum.inl (nI (q + 1), S)) : Option ((Int32 × (Nat → Int32)) ⊕ ((Int32 × (Nat → Int32)) ⊕ OX0))) = some (.inl s') ∧ s'.1 = nI (q + 1) ∧ LnP (QP (adF n m F) p (q + 1)) s'.2 := fun hx => ⟨_, rfl, rfl, h4.cg (qp_n hx)⟩
        by_cases e : F p = F q
        · rw [if_pos e]
          refine no ?_
          unfold adF
          rw [beq_t.mpr e]; exact Bool.false_ne_true
        · rw [if_neg e]
          have hA : adF n m F p q = (cvB n m F (F p &&& F q) (F p) && cvB n m F (F p &&& F q) (F q)) := by
            unfold adF
            rw [nbeq_f e]; rfl
          rcases bool_ft (cvB n m F (F p &&& F q) (F p)) with b | b
          · rw [if0_f b]
            refine no ?_
            rw [hA, b]; exact Bool.false_ne_true
          · rw [if0_t b]
            rcases bool_ft (cvB n m F (F p &&& F q) (F q)) with b2 | b2
            · rw [if0_f b2]
              refine no ?_
              rw [hA, b, b2]; exact Bool.false_ne_true
            · obtain ⟨S', s1, s2⟩ := eX0_link (s0_size (s0_nextTo g T0) (nI m)) h4 (p := p) (q := q) (by omega) (by omega) (by omega)
              rw [if0_t b2, bd_s s1]
              exact ⟨_, rfl, rfl, s2.cg (qp_y (by rw [hA, b, b2]; rfl))⟩
      · obtain ⟨vq, S⟩ := v
        obtain ⟨h3, h4⟩ := hI
        dsimp only at h3 h4
        subst h3
        unfold fX0_linkFacets_L21
        dsimp only
        rw [if_pos (nI_le (Nat.le_refl p) (by omega)), p_s1]
        exact ⟨_, rfl, S, rfl, h4.cg (qp_p (adF_s n m F) (adF_r n m F) p)⟩
    obtain ⟨z, k1, T', rfl, k2⟩ := key
    exact ⟨_, k1, rfl, k2⟩
  · obtain ⟨vp, T⟩ := v
    obtain ⟨h1, h2⟩ := hI
    dsimp only at h1 h2
    subst h1
    unfold fX0_linkFacets_L10
    dsimp only
    rw [if_pos (nI_le (Nat.le_refl m) (by omega))]
    exact ⟨_, rfl, gr_end (g := s0_size (s0_nextTo g T0) (nI m)) (by omega) rfl h2⟩
theorem eX0_nextToAny {g : OX0} (hN : N ≤ 10) (h : GrR A N g) {s : Nat} (hs : s < 2 ^ N) : fX0_nextToAny g (nI s) = some (nI (nany A N s)) := by
  have h10 := p2_lt hN
  unfold fX0_nextToAny
  refine lp_cnt (fun q x => (nI x, nI q)) (fun q x => if s.testBit q = true then x ||| nbs A N q else x) 0 N (fun _ _ => True) trivial (fun q x hq _ => ⟨?_, trivial⟩) (fun _ => ?_) (lpN_gt (by omega))
  · unfold fX0_nextToAny_L4
    dsimp only
    rw [h.1, if_neg (nI_ge hq (by omega)), p_bit1 (by omega) (by omega), p_s1, p_ix (by omega), h.2 q hq, p_or]
    rcases bool_ft (s.testBit q) with b | b
    · rw [if1_f b, if_bf b]
    · rw [if1_t b, if_pos b, ck_t (p_ok (by omega) (by decide))]
  · unfold fX0_nextToAny_L4
    dsimp only
    rw [h.1, if_pos (nI_le (Nat.le_refl N) (by omega))]
    rfl
theorem eX0_length {g : OX0} (hN : N ≤ 10) (h : GrR A N g) {a b : Nat} (ha : a < N) (hb : b < N) : ∃ v, fX0_length g (nI a) (nI b) = some v ∧ DV A N a b v := by
  have h10 := p2_lt hN
  unfold fX0_length
  rw [p_shl1 (by omega)]
  refine lp_inv (fun k v => v = (nI (re A N a k), nI k) ∧ ∀ d, d < k → ¬ RE A N a d b) _ N ⟨rfl, fun d hd => absurd hd (Nat.not_lt_zero d)⟩ (fun k v hk hI => ?_) (fun v hI => ?_) (lpN_gt (by omega))
  · obtain ⟨rfl, hI⟩ := hI
    have hr := re_nlt (A := A) ha k
    unfold fX0_length_L7
    dsimp only
    rw [h.1, if_neg (nI_ge hk (by omega)), p_bit1 (by omega) (by omega), bd_s (eX0_nextToAny hN h hr), p_or, p_s1]
    rcases bool_ft ((re A N a k).testBit b) with c | c
    · rw [if1_f c]
      refine Or.inl ⟨_, rfl, rfl, fun d hd => ?_⟩
      by_cases e : d = k
      · rw [e]; exact fun z => Bool.noConfusion (c.symm.trans z)
      · exact hI d (by omega)
    · rw [if1_t c]
      exact Or.inr ⟨_, rfl, Or.inl ⟨k, hk, ⟨c, hI⟩, rfl⟩⟩
  · obtain ⟨rfl, hI⟩ := hI
    unfold fX0_length_L7
    dsimp only
    rw [h.1, if_pos (nI_le (Nat.le_refl N) (by omega))]
    exact ⟨_, rfl, Or.inr ⟨rfl, dv_none ha hI⟩⟩
end GC

/-! the reference's steps; neighbours, distances, steps, diameters: the calls -/
section SG
variable {n m : Nat} {F : Nat → Nat} {A : Nat → Nat → Bool} {N : Nat}
def LyC (n m : Nat) (F : Nat → Nat) (k isl : Int32) (c f r p : Nat → Int32) : Prop := isl = 0 ∨ (isl = 1 ∧ LaidR n m F c f r p k)
def LvP (A : Nat → Nat → Bool) (N a d j : Nat) (v : Int32) : Prop := (∃ e, e ≤ d ∧ LX A N a e j ∧ v = nI e) ∨ (¬ RE A N a d j ∧ v = -1)
def PM (A : Nat → Nat → Bool) (N a far i j : Nat) (v : Int32) : Prop := (∃ e, e ≤ far ∧ LX A N a e j ∧ v = nI e) ∨ (¬ RE A N a far j ∧ (∃ i', i' < i ∧ LX A N a far i' ∧ A i' j = true) ∧ v = nI (far + 1)) ∨ (¬ RE A N a far j ∧ (¬ ∃ i', i' < i ∧ LX A N a far i' ∧ A i' j = true) ∧ v = -1)
theorem pm_0 {a far j : Nat} {v : Int32} (h : LvP A N a far j v) : PM A N a far 0 j v := by
  rcases h with h | ⟨h1, h2⟩
  · exact Or.inl h
  · exact Or.inr (Or.inr ⟨h1, fun ⟨i, hi, _⟩ => Nat.not_lt_zero i hi, h2⟩)
theorem pm_N {a far j : Nat} (hj : j < N) {v : Int32} (h : PM A N a far N j v) : LvP A N a (far + 1) j v := by
  rcases h with ⟨e, h1, h2⟩ | ⟨h1, ⟨i, h2, h3, h4⟩, h5⟩ | ⟨h1, h2, h3⟩
  · exact Or.inl ⟨e, by omega, h2⟩
  · refine Or.inl ⟨far + 1, Nat.le_refl _, ⟨re_s.mpr (Or.inr ⟨i, h2, h3.1, hj, h4⟩), fun d hd z => h1 (re_mono (by omega) z)⟩, h5⟩
  · refine Or.inr ⟨fun z => ?_, h3⟩
    rcases re_s.mp z with z | ⟨i, g1, g2, _, g3⟩
    · exact h1 z
    · obtain ⟨e, e1, e2⟩ := lx_ex far i g2
      by_cases q : e = far
      · subst q; exact h2 ⟨i, g1, e2, g3⟩
      · exact h1 (re_mono (k := e + 1) (by omega) (re_s.mpr (Or.inr ⟨i, g1, e2.1, hj, g3⟩)))
theorem pm_at {a far i : Nat} (hf : far < 1000) {v : Int32} (h : PM A N a far i i v) : v = nI far ↔ LX A N a far i := by
  rcases h with ⟨e, h1, h2, h3⟩ | ⟨h1, _, h3⟩ | ⟨h1, _, h3⟩
  · rw [h3]
    refine ⟨fun z => ?_, fun z => by rw [lx_u h2 z]⟩
    rw [← (nI_eq (by omega) (by omega)).mp z]; exact h2
  · rw [h3]
    refine ⟨fun z => ?_, fun z => absurd z.1 h1⟩
    have := (nI_eq (by omega) (by omega)).mp z
    omega
  · rw [h3]
    refine ⟨fun z => ?_, fun z => absurd z.1 h1⟩
    have h4 : (nI far = -1) = False := p_nm1 (by omega)
    exact absurd z.symm (fun q => h4 ▸ q)
theorem pm_no {a far i j : Nat} {v : Int32} (hx : ¬ (LX A N a far i ∧ A i j = true)) (h : PM A N a far i j v) : PM A N a far (i + 1) j v := by
  rcases h with h | ⟨h1, ⟨i', h2, h3⟩, h4⟩ | ⟨h1, h2, h3⟩
  · exact Or.inl h
  · exact Or.inr (Or.inl ⟨h1, ⟨i', by omega, h3⟩, h4⟩)
  · refine Or.inr (Or.inr ⟨h1, fun ⟨i', g1, g2⟩ => ?_, h3⟩)
    by_cases e : i' = i
    · rw [e] at g2; exact hx g2
    · exact h2 ⟨i', by omega, g2⟩
theorem pm_yes {a far i j : Nat} (hf : far < 1000) {v : Int32} (hx : LX A N a far i ∧ A i j = true) (h : PM A N a far i j v) : PM A N a far (i + 1) j (if v = -1 then nI (far + 1) else v) := by
  rcases h with ⟨e, h1, h2, h3⟩ | ⟨h1, ⟨i', h2, h3⟩, h4⟩ | ⟨h1, h2, h3⟩
  · rw [if_neg (by rw [h3, p_nm1 (by omega)]; exact id)]
    exact Or.inl ⟨e, h1, h2, h3⟩
  · rw [if_neg (by rw [h4, p_nm1 (by omega)]; exact id)]
    exact Or.inr (Or.inl ⟨h1, ⟨i', by omega, h3⟩, h4⟩)
  · rw [if_pos h3]
    exact Or.inr (Or.inl ⟨h1, ⟨i, by omega, hx⟩, rfl⟩)
theorem upd_id (S : Nat → Int32) (k : Nat) : upd S k (S k) = S := by
  funext j
  unfold upd
  by_cases e : j = k
  · rw [if_pos e, e]
  · rw [if_neg e]
theorem eX7_layJ {a far i s : Nat} (hN : N ≤ 10) (hf : far < 1000) (hs : s < 2 ^ N) (hb : ∀ j, j < N → (s.testBit j = true ↔ LX A N a far i ∧ A i j = true)) {w7 : Int32 × Int32 × (Nat → Int32) × (Nat → Int32) × (Nat → Int32) × (Nat → Int32) × (Nat → Int32)} {f8 l8 : Int32} {c8 fa8 r8 p8 S : Nat → Int32} (h : ∀ j, j < N → PM A N a far i j (S j)) (x13 x14 : Int32) (x15 x16 x17 x18 : Nat → Int32) : ∃ S', fX7_laySteps_J94 (nI N) (nI far, w7) (nI i, f8, l8, c8, fa8, r8, p8, S) (nI s) x13 x14 x15 x16 x17 x18 = some (.inl (nI (i + 1), x13, x14, x15, x16, x17, x18, S')) ∧ ∀ j, j < N → PM A N a far (i + 1) j (S' j) := by
  have h10 := p2_lt hN
  have key : ∃ z, fX7_laySteps_J94 (nI N) (nI far, w7) (nI i, f8, l8, c8, fa8, r8, p8, S) (nI s) x13 x14 x15 x16 x17 x18 = some z ∧ ∃ S', z = .inl (nI (i + 1), x13, x14, x15, x16, x17, x18, S') ∧ ∀ j, j < N → PM A N a far (i + 1) j (S' j) := by
    unfold fX7_laySteps_J94
    refine lp_inv (fun j v => v.1 = nI j ∧ ∀ t, t < N → (t < j → PM A N a far (i + 1) t (v.2 t)) ∧ (j ≤ t → PM A N a far i t (v.2 t))) _ N ⟨rfl, fun t ht => ⟨fun z => absurd z (Nat.not_lt_zero t), fun _ => h t ht⟩⟩ (fun j v hj hI => Or.inl ?_) (fun v hI => ?_) (lpN_gt (by omega))
    · obtain ⟨vj, T⟩ := v
      obtain ⟨h1, h2⟩ := hI
      dsimp only at h1 h2
      subst h1
      have hok : okI (nI j) 10 = true := p_ok (by omega) (by decide)
      have hPj := (h2 j hj).2 (Nat.le_refl j)
      unfold fX7_laySteps_L99
      dsimp only
      rw [if_neg (nI_ge hj (by omega)), bd_s (eX7_has (by omega) (by omega)), p_s1, p_ix (by omega), p_s1]
      have fin : ∀ y, PM A N a far (i + 1) j y → ∃ s', (some (Sum.inl (nI (j + 1), upd T j y)) : Option ((Int32 × (Nat → Int32)) ⊕ ((Int32 × Int32 × Int32 × (Nat → Int32) × (Nat → Int32) × (Nat → Int32) × (Nat → Int32) × (Nat → Int32)) ⊕ ((Int32 × Int32 × Int32 × (Nat → Int32) × (Nat → Int32) × (Nat → Int32) × (Nat → Int32) × (Nat → Int32)) ⊕ (OX7))))) = some (.inl s') ∧ s'.1 = nI (j + 1) ∧ ∀ t, t < N → (t < j + 1 → PM A N a far (i + 1) t (s'.2 t)) ∧ (j + 1 ≤ t → PM A N a far i t (s'.2 t)) := fun y hy => by
        refine ⟨_, rfl, rfl, fun t ht => ?_⟩
        show (t < j + 1 → PM A N a far (i + 1) t (upd T j y t)) ∧ (j + 1 ≤ t → PM A N a far i t (upd T j y t))
        by_cases e : t = j
        · rw [e, upd_at]; exact ⟨fun _ => hy, fun z => absurd z (by omega)⟩
        · rw [upd_ne _ _ e]
          exact ⟨fun z => (h2 t ht).1 (by omega), fun z => (h2 t ht).2 (by omega)⟩
      rcases bool_ft (s.testBit j) with b | b
      · rw [if0_f b, ck_t hok, ck_t hok]
        exact fin _ (pm_no (fun z => Bool.noConfusion (b.symm.trans ((hb j hj).mpr z))) hPj)
      · have hy := pm_yes hf ((hb j hj).mp b) hPj
        rw [if0_t b, ck_t hok]
        by_cases e : T j = -1
        · rw [if_pos e] at hy
          rw [if_pos e, ck_t hok]
          exact fin _ hy
        · rw [if_neg e] at hy
          rw [if_neg e, ck_t hok, ck_t hok]
          exact fin _ hy
    · obtain ⟨vj, T⟩ := v
      obtain ⟨h1, h2⟩ := hI
      dsimp only at h1 h2
      subst h1
      unfold fX7_laySteps_L99
      dsimp only
      rw [if_pos (nI_le (Nat.le_refl N) (by omega)), p_s1]
      exact ⟨_, rfl, T, rfl, fun j hj => (h2 j hj).1 hj⟩
  obtain ⟨z, k1, S', rfl, k2⟩ := key
  exact ⟨S', k1, k2⟩
theorem eX7_layFar {o : OX7} (hv : IncV n m F) (hN : NowR n m F (q7_now o)) (p : Int32) {a : Nat} (ha : a < ndN n m p) {k0 l0 : Int32} {c0 f0 r0 p0 S0 : Nat → Int32} (hL : LyC n m F k0 l0 c0 f0 r0 p0) (h0 : ∀ j, j < ndN n m p → LvP (ndA n m F p) (ndN n m p) a 0 j (S0 j)) : ∃ q, lp (fX7_laySteps_L56 o p (nI (ndN n m p))) lpN (0, k0, l0, c0, f0, r0, p0, S0) = some q ∧ (q7_isLaid q = 0 ∨ LdR n m F q) ∧ ∀ j, j < ndN n m p → LvP (ndA n m F p) (ndN n m p) a (ndN n m p) j (q7_steps q j) := by
  have h10 := ndN_10 hv p
  have h10b := p2_lt h10
  refine lp_inv (fun far (v : Int32 × Int32 × Int32 × (Nat → Int32) × (Nat → Int32) × (Nat → Int32) × (Nat → Int32) × (Nat → Int32)) => v.1 = nI far ∧ LyC n m F v.2.1 v.2.2.1 v.2.2.2.1 v.2.2.2.2.1 v.2.2.2.2.2.1 v.2.2.2.2.2.2.1 ∧ ∀ j, j < ndN n m p → LvP (ndA n m F p) (ndN n m p) a far j (v.2.2.2.2.2.2.2 j)) _ (ndN n m p) ⟨rfl, hL, h0⟩ (fun far v hfar hI => Or.inl ?_) (fun v hI => ?_) (lpN_gt (by omega))
  · obtain ⟨vf, k1, l1, c1, f1, r1, p1, S1⟩ := v
    obtain ⟨h1, h2, h3⟩ := hI
    dsimp only at h1 h2 h3
    subst h1
    unfold fX7_laySteps_L56
    dsimp only
    rw [if_neg (nI_ge hfar (by omega))]
    have key : ∃ z, lp (fX7_laySteps_L65 o p (nI (ndN n m p)) (nI far, k1, l1, c1, f1, r1, p1, S1)) lpN (0, k1, l1, c1, f1, r1, p1, S1) = some z ∧ ∃ k2 l2 c2 f2 r2 p2 S2, z = .inl (nI (far + 1), k2, l2, c2, f2, r2, p2, S2) ∧ LyC n m F k2 l2 c2 f2 r2 p2 ∧ ∀ j, j < ndN n m p → LvP (ndA n m F p) (ndN n m p) a (far + 1) j (S2 j) := by
      refine lp_inv (fun i (v : Int32 × Int32 × Int32 × (Nat → Int32) × (Nat → Int32) × (Nat → Int32) × (Nat → Int32) × (Nat → Int32)) => v.1 = nI i ∧ LyC n m F v.2.1 v.2.2.1 v.2.2.2.1 v.2.2.2.2.1 v.2.2.2.2.2.1 v.2.2.2.2.2.2.1 ∧ ∀ j, j < ndN n m p → PM (ndA n m F p) (ndN n m p) a far i j (v.2.2.2.2.2.2.2 j)) _ (ndN n m p) ⟨rfl, h2, fun j hj => pm_0 (h3 j hj)⟩ (fun i v hi hI => Or.inl ?_) (fun v hI => ?_) (lpN_gt (by omega))
      · obtain ⟨vi, k2, l2, c2, f2, r2, p2, S2⟩ := v
        obtain ⟨g1, g2, g3⟩ := hI
        dsimp only at g1 g2 g3
        subst g1
        have hat := pm_at (by omega) (g3 i hi)
        unfold fX7_laySteps_L65
        dsimp only
        rw [if_neg (nI_ge hi (by omega)), ck_t (p_ok (by omega) (by decide)), p_ix (by omega)]
        by_cases e : S2 i = nI far
        · have hlx := hat.mp e
          obtain ⟨q, q1, q2⟩ := eX7_near (o := s7_steps (s7_isLaid (s7_faceMany (s7_placeOf (s7_rankOf (s7_faces (s7_closed o c2) f2) r2) p2) k2) l2) S2) hv hN g2 p hi
          rw [if_pos e, bd_s q1]
          dsimp only
          obtain ⟨S3, s1, s2⟩ := eX7_layJ (A := ndA n m F p) (w7 := (k1, l1, c1, f1, r1, p1, S1)) (f8 := k2) (l8 := l2) (c8 := c2) (fa8 := f2) (r8 := r2) (p8 := p2) h10 (show far < 1000 by omega) (nbs_lt (ndA n m F p) (ndN n m p) i) (fun j hj => by rw [tb_nbs, decide_eq_true hj, Bool.true_and]; exact ⟨fun z => ⟨hlx, z⟩, fun z => z.2⟩) g3 (q7_faceMany q) (q7_isLaid q) (q7_closed q) (q7_faces q) (q7_rankOf q) (q7_placeOf q)
          rw [s1]
          exact ⟨_, rfl, rfl, Or.inr q2, s2⟩
        · rw [if_neg e]
          obtain ⟨S3, s1, s2⟩ := eX7_layJ (A := ndA n m F p) (s := 0) (w7 := (k1, l1, c1, f1, r1, p1, S1)) (f8 := k2) (l8 := l2) (c8 := c2) (fa8 := f2) (r8 := r2) (p8 := p2) h10 (show far < 1000 by omega) (p2_pos _) (fun j hj => by rw [Nat.zero_testBit]; exact ⟨fun z => (by cases z), fun z => absurd (hat.mpr z.1) e⟩) g3 k2 l2 c2 f2 r2 p2
          rw [show (0 : Int32) = nI 0 from rfl, s1]
          exact ⟨_, rfl, rfl, g2, s2⟩
      · obtain ⟨vi, k2, l2, c2, f2, r2, p2, S2⟩ := v
        obtain ⟨g1, g2, g3⟩ := hI
        dsimp only at g1 g2 g3
        subst g1
        unfold fX7_laySteps_L65
        dsimp only
        rw [if_pos (nI_le (Nat.le_refl _) (by omega)), p_s1]
        exact ⟨_, rfl, k2, l2, c2, f2, r2, p2, S2, rfl, g2, fun j hj => pm_N hj (g3 j hj)⟩
    obtain ⟨z, y1, k2, l2, c2, f2, r2, p2, S2, rfl, y2, y3⟩ := key
    exact ⟨_, y1, rfl, y2, y3⟩
  · obtain ⟨vf, k1, l1, c1, f1, r1, p1, S1⟩ := v
    obtain ⟨h1, h2, h3⟩ := hI
    dsimp only at h1 h2 h3
    subst h1
    unfold fX7_laySteps_L56
    dsimp only
    rw [if_pos (nI_le (Nat.le_refl _) (by omega))]
    exact ⟨_, rfl, h2, h3⟩
theorem eX7_laySteps {o : OX7} (hv : IncV n m F) (hN : NowR n m F (q7_now o)) (hL : q7_isLaid o = 0 ∨ LdR n m F o) (p : Int32) {a : Nat} (ha : a < ndN n m p) : ∃ q, fX7_laySteps o (nI a) p = some q ∧ (q7_isLaid q = 0 ∨ LdR n m F q) ∧ ∀ j, j < ndN n m p → DV (ndA n m F p) (ndN n m p) a j (q7_steps q j) := by
  have h10 := ndN_10 hv p
  have e0 : fX7_laySteps o (nI a) p = fX7_laySteps_J19 o (nI a) p (nI (ndN n m p)) := by
    unfold fX7_laySteps ndN
    by_cases e : p = 0
    · rw [if_pos e, if_pos e, hN.n]
    · rw [if_neg e, if_neg e, hN.m]
  have key : ∃ q, fX7_laySteps_J19 o (nI a) p (nI (ndN n m p)) = some q ∧ (q7_isLaid q = 0 ∨ LdR n m F q) ∧ ∀ j, j < ndN n m p → LvP (ndA n m F p) (ndN n m p) a (ndN n m p) j (q7_steps q j) := by
    unfold fX7_laySteps_J19
    refine lp_inv (fun i v => v.1 = nI i ∧ ∀ j, j < i → LvP (ndA n m F p) (ndN n m p) a 0 j (v.2 j)) _ (ndN n m p) ⟨rfl, fun j hj => absurd hj (Nat.not_lt_zero j)⟩ (fun i v hi hI => Or.inl ?_) (fun v hI => ?_) (lpN_gt (by omega))
    · obtain ⟨vi, S⟩ := v
      obtain ⟨h1, h2⟩ := hI
      dsimp only at h1 h2
      subst h1
      have hok : okI (nI i) 10 = true := p_ok (by omega) (by decide)
      unfold fX7_laySteps_L23
      dsimp only
      rw [if_neg (nI_ge hi (by omega)), ifq (by omega) (by omega), ck_t hok, ck_t hok, p_s1, p_ix (by omega)]
      by_cases e : i = a
      · rw [if_pos e]
        refine ⟨_, rfl, rfl, fun j hj => ?_⟩
        show LvP _ _ a 0 j (upd S i 0 j)
        by_cases q : j = i
        · rw [q, upd_at, e]
          exact Or.inl ⟨0, Nat.le_refl 0, lx_00 a, rfl⟩
        · rw [upd_ne _ _ q]; exact h2 j (by omega)
      · rw [if_neg e]
        refine ⟨_, rfl, rfl, fun j hj => ?_⟩
        show LvP _ _ a 0 j (upd S i (-1) j)
        by_cases q : j = i
        · rw [q, upd_at]
          exact Or.inr ⟨fun z => e (re_0.mp z), rfl⟩
        · rw [upd_ne _ _ q]; exact h2 j (by omega)
    · obtain ⟨vi, S⟩ := v
      obtain ⟨h1, h2⟩ := hI
      dsimp only at h1 h2
      subst h1
      unfold fX7_laySteps_L23
      dsimp only
      rw [if_pos (nI_le (Nat.le_refl _) (by omega))]
      obtain ⟨q, q1, q2⟩ := eX7_layFar (k0 := q7_faceMany o) (l0 := q7_isLaid o) (c0 := q7_closed o) (f0 := q7_faces o) (r0 := q7_rankOf o) (p0 := q7_placeOf o) hv hN p ha hL h2
      exact ⟨q, by rw [q1]; rfl, q2⟩
  obtain ⟨q, q1, q2, q3⟩ := key
  refine ⟨q, e0.trans q1, q2, fun j hj => ?_⟩
  rcases q3 j hj with ⟨e, _, e2, e3⟩ | ⟨h1, h2⟩
  · exact Or.inl ⟨e, lx_N ha e2, e2, e3⟩
  · exact Or.inr ⟨h2, dv_none ha fun d hd z => h1 (re_mono (by omega) z)⟩
variable {o : OX6} {r : OX7}
theorem sk_41 (h : Rel o r) (x y : Int32) : SK_41 Rel o r x y := by
  obtain ⟨n, m, F, hv, hi, hl, hN, hL, hH, hS, hT⟩ := h
  have h10 := ndN_10 hv (bz y)
  unfold SK_41 fX6_neighbours fX7_neighbours
  rw [eX6_checkNode hv hi x (bz y), bd_s (eX7_isOne (o := s7_thrown r 0) hv hN x (bz y))]
  rcases bool_ft (okI x (ndN n m (bz y))) with hx | hx
  · rw [if_bf hx, bd_s (eX7_fails_f _ hx 1)]
    exact ⟨(.inl 2, _), _, rfl, if_neg n10, sk_il rfl, hc_2.symm, sk_vl, n, m, F, hv, hi, hl, hN, hL, hH, hS, hT⟩
  · obtain ⟨k, hk, rfl⟩ := okI_of hx (by omega)
    obtain ⟨g, g1, g2⟩ := eX6_linkGraph hv hi hl (bz y)
    obtain ⟨q, q1, q2⟩ := eX7_near (o := s7_thrown r 0) hv hN hL (bz y) hk
    rw [if_pos hx, Option.bind_some, xb_r, bd_s g1, bd_s (eX7_fails_t _ hx 1), if_pos rfl, ck_t (p_ok (by omega) (by decide))]
    dsimp only
    rw [show (fX7_near (s7_thrown r (q7_thrown (s7_thrown r 0))) (nI k) (bz y)) = _ from q1, Option.bind_some]
    refine ⟨_, _, rfl, rfl, sk_ir, rfl, sk_vr ?_, n, m, F, hv, hi, hl, hN, Or.inr q2, hH, hS, hT⟩
    show nI _ = q0_nextTo g (ix (nI k))
    rw [p_ix (by omega), g2.2 k hk]
theorem sk_42 (h : Rel o r) (x y z : Int32) : SK_42 Rel o r x y z := by
  obtain ⟨n, m, F, hv, hi, hl, hN, hL, hH, hS, hT⟩ := h
  have h10 := ndN_10 hv (bz z)
  unfold SK_42 fX6_distance fX7_distance fX7_distance_J28 fX7_distance_J29
  rw [eX6_checkNode hv hi x (bz z), eX6_checkNode hv hi y (bz z), bd_s (eX7_isOne (o := s7_thrown r 0) hv hN x (bz z)), bd_s (eX7_isOne (o := s7_thrown r 0) hv hN y (bz z)), eX7_fails_0, eX7_fails_1, Option.bind_some, Option.bind_some]
  rcases bool_ft (okI x (ndN n m (bz z))) with hx | hx
  · rw [if_bf hx, if0_f hx]
    exact ⟨(.inl 2, _), _, rfl, if_neg n10, sk_il rfl, hc_2.symm, sk_vl, n, m, F, hv, hi, hl, hN, hL, hH, hS, hT⟩
  · rw [if_pos hx, if0_t hx]
    rcases bool_ft (okI y (ndN n m (bz z))) with hy | hy
    · rw [if_bf hy, if0_f hy]
      exact ⟨(.inl 2, _), _, rfl, if_neg n10, sk_il rfl, hc_2.symm, sk_vl, n, m, F, hv, hi, hl, hN, hL, hH, hS, hT⟩
    · obtain ⟨k, hk, rfl⟩ := okI_of hx (by omega)
      obtain ⟨l, hl2, rfl⟩ := okI_of hy (by omega)
      obtain ⟨g, g1, g2⟩ := eX6_linkGraph hv hi hl (bz z)
      obtain ⟨v, v1, v2⟩ := eX0_length h10 (g := (q0_nextTo g, q0_size g)) g2 hk hl2
      obtain ⟨q, q1, q2, q3⟩ := eX7_laySteps (o := s7_thrown r 0) hv hN hL (bz z) hk
      rw [if_pos hy, if0_t hy, Option.bind_some, xb_r, Option.bind_some, xb_r, bd_s g1, if_pos rfl]
      dsimp only
      rw [bd_s v1, show (fX7_laySteps (s7_thrown r (q7_thrown (s7_thrown r 0))) (nI k) (bz z)) = _ from q1, Option.bind_some, ck_t (p_ok (by omega) (by decide)), p_ix (by omega)]
      exact ⟨_, _, rfl, rfl, sk_ir, rfl, sk_vr (dv_u (q3 l hl2) v2), n, m, F, hv, hi, hl, hN, q2, hH, hS, hT⟩
end SG

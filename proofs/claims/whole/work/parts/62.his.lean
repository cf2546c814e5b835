/-! the history on both sides; what was made becomes what is -/
def HiA (h : OX1) (c d : Nat) (H : Nat → Nat × Nat × (Nat → Nat)) : Prop := q1_count h = nI c ∧ q1_oldest h = nI d ∧ ∀ i, i < c → IncV (H i).1 (H i).2.1 (H i).2.2 ∧ IncR (H i).1 (H i).2.1 (H i).2.2 (q1_ring h ((d + i) % 8))
def HiB (h : Nat → Int32) (c : Nat) (H : Nat → Nat × Nat × (Nat → Nat)) : Prop := ∀ i, i < c → NowR (H i).1 (H i).2.1 (H i).2.2 (fun k => h (12 * i + k))
theorem HiR_of {h6 : OX1} {h7 : Nat → Int32} {e7 : Int32} {c d : Nat} {H : Nat → Nat × Nat × (Nat → Nat)} (hc : c ≤ 8) (hd : d < 8) (a : HiA h6 c d H) (b : HiB h7 c H) (e : e7 = nI c) : HiR h6 h7 e7 := ⟨c, d, H, hc, hd, a.1, a.2.1, e, fun i hi => ⟨(a.2.2 i hi).1, (a.2.2 i hi).2, b i hi⟩⟩
theorem HiR_to {h6 : OX1} {h7 : Nat → Int32} {e7 : Int32} (h : HiR h6 h7 e7) : ∃ c d H, c ≤ 8 ∧ d < 8 ∧ HiA h6 c d H ∧ HiB h7 c H ∧ e7 = nI c := by
  obtain ⟨c, d, H, h1, h2, h3, h4, h5, h6⟩ := h
  exact ⟨c, d, H, h1, h2, ⟨h3, h4, fun i hi => ⟨(h6 i hi).1, (h6 i hi).2.1⟩⟩, fun i hi => (h6 i hi).2.2, h5⟩
/-- one more state: how many, the oldest's place, which -/
def hcn (c : Nat) : Nat := if c = 8 then 8 else c + 1
def hdn (c d : Nat) : Nat := if c = 8 then (d + 1) % 8 else d
def hHn (c : Nat) (H : Nat → Nat × Nat × (Nat → Nat)) (s : Nat × Nat × (Nat → Nat)) : Nat → Nat × Nat × (Nat → Nat) := fun i => if i + 1 = hcn c then s else (if c = 8 then H (i + 1) else H i)
theorem hcn_8 {c : Nat} (h : c ≤ 8) : hcn c ≤ 8 := by
  unfold hcn; split <;> omega
theorem hdn_8 {c d : Nat} (h : d < 8) : hdn c d < 8 := by
  unfold hdn; split <;> omega
theorem upR_at {α : Type} (R : Nat → α) (k : Nat) (x : α) : upR R k x k = x := by
  unfold upR
  rw [beq_t.mpr rfl]; rfl
theorem upR_ne {α : Type} (R : Nat → α) {k j : Nat} (x : α) (h : j ≠ k) : upR R k x j = R j := by
  unfold upR
  rw [nbeq_f h]; rfl
theorem eX1_add32 {h : OX1} {y : OX2} {n m : Nat} {F : Nat → Nat} (hv : IncV n m F) (hy : IncR n m F y) {d c : Nat} (hd : d < 8) (hc : c < 8) : ∃ z, fX1_add_J32 h y (nI d) (nI c) = some z ∧ q1_count z = nI (c + 1) ∧ q1_oldest z = nI d ∧ IncR n m F (q1_ring z ((d + c) % 8)) ∧ ∀ j, j ≠ (d + c) % 8 → q1_ring z j = q1_ring h j := by
  have hlt : (d + c) % 8 < 8 := Nat.mod_lt _ (by decide)
  unfold fX1_add_J32
  rw [nI_add, show (8 : Int32) = nI 8 from rfl, p_rem (by omega) (by decide), ck_t (p_ok hlt (by decide)), p_ix (by omega)]
  obtain ⟨z, z1, z2⟩ := eX2_copyFrom (q1_ring h ((d + c) % 8)) hy hv.2.2.1
  rw [bd_s z1]
  refine ⟨_, rfl, p_s1 c, rfl, ?_, fun j hj => upR_ne _ _ hj⟩
  show IncR n m F (upR (q1_ring h) ((d + c) % 8) z ((d + c) % 8))
  rw [upR_at]
  exact z2
theorem md_ne {a i j : Nat} (hi : i < 8) (hj : j < 8) (h : i ≠ j) : (a + i) % 8 ≠ (a + j) % 8 := by omega
theorem md_s (d i : Nat) : ((d + 1) % 8 + i) % 8 = (d + (i + 1)) % 8 := by omega
theorem eX1_add {h : OX1} {y : OX2} {n m : Nat} {F : Nat → Nat} {c d : Nat} {H : Nat → Nat × Nat × (Nat → Nat)} (hc : c ≤ 8) (hd : d < 8) (hh : HiA h c d H) (hv : IncV n m F) (hy : IncR n m F y) : ∃ z, fX1_add h y = some z ∧ HiA z (hcn c) (hdn c d) (hHn c H (n, m, F)) := by
  obtain ⟨h1, h2, h3⟩ := hh
  unfold fX1_add hcn hdn hHn hcn
  by_cases e : c = 8
  · subst e
    have h1b : q1_count h - 1 = nI 7 := by rw [h1]; rfl
    have h2b : jrem (q1_oldest h + 1) 8 = nI ((d + 1) % 8) := by rw [h2, p_s1, show (8 : Int32) = nI 8 from rfl, p_rem (by omega) (by decide)]
    rw [if_pos (show q1_count h = 8 from h1), h1b, h2b, if_pos rfl, if_pos rfl]
    obtain ⟨z, z1, z2, z3, z4, z5⟩ := eX1_add32 (h := h) hv hy (d := (d + 1) % 8) (c := 7) (Nat.mod_lt _ (by decide)) (by decide)
    refine ⟨z, z1, z2, z3, fun i hi => ?_⟩
    dsimp only
    rw [if_pos (rfl : 8 = 8)]
    by_cases q : i + 1 = 8
    · rw [if_pos q, show i = 7 by omega]; exact ⟨hv, z4⟩
    · rw [if_neg q, z5 _ (md_ne (by omega) (by decide) (by omega)), md_s]
      exact h3 (i + 1) (by omega)
  · rw [if_neg (by rw [h1, show (8 : Int32) = nI 8 from rfl, p_eq (by omega) (by decide)]; exact e), h1, h2, if_neg e, if_neg e]
    obtain ⟨z, z1, z2, z3, z4, z5⟩ := eX1_add32 (h := h) hv hy (d := d) (c := c) hd (by omega)
    refine ⟨z, z1, z2, z3, fun i hi => ?_⟩
    dsimp only
    rw [if_neg e]
    by_cases q : i + 1 = c + 1
    · rw [if_pos q, show i = c by omega]; exact ⟨hv, z4⟩
    · rw [if_neg q, z5 _ (md_ne (by omega) (by omega) (by omega))]
      exact h3 i (by omega)
theorem NowR.cg {n m : Nat} {F : Nat → Nat} {g g' : Nat → Int32} (hm : m ≤ 10) (h : NowR n m F g) (e : ∀ k, k < 12 → g' k = g k) : NowR n m F g' := ⟨(e 0 (by decide)).trans h.1, (e 1 (by decide)).trans h.2.1, fun f hf => (e (2 + f) (by omega)).trans (h.2.2 f hf)⟩
theorem eX7_record54 {o : OX7} {c : Nat} (hc : c < 8) (T0 : Nat → Int32) : ∃ z, fX7_record_J54 o (nI c) T0 = some z ∧ q7_entries z = nI (c + 1) ∧ q7_isLaid z = 0 ∧ (∀ j, j < 12 * c → q7_history z j = T0 j) ∧ ∀ j, j < 12 → q7_history z (12 * c + j) = q7_now o j := by
  have h12 : ∀ k : Nat, (12 : Int32) * nI c + nI k = nI (12 * c + k) := fun k => by
    rw [show (12 : Int32) = nI 12 from rfl, p_mul, nI_add]
  unfold fX7_record_J54
  refine lp_inv (fun k v => v.1 = nI k ∧ (∀ j, j < 12 * c → v.2 j = T0 j) ∧ ∀ j, j < k → v.2 (12 * c + j) = q7_now o j) _ 12 ⟨rfl, fun j _ => rfl, fun j hj => absurd hj (Nat.not_lt_zero j)⟩ (fun k v hk hI => Or.inl ?_) (fun v hI => ?_) (lpN_gt (by omega))
  · obtain ⟨vk, T⟩ := v
    obtain ⟨h1, h2, h3⟩ := hI
    dsimp only at h1 h2 h3
    subst h1
    unfold fX7_record_L56
    dsimp only
    rw [if_neg (show ¬ (12 : Int32) ≤ nI k from nI_ge (b := 12) hk (by omega)), h12, ck_t (p_ok (by omega) (by decide)), ck_t (p_ok (by omega) (by decide)), p_ix (by omega), p_ix (by omega), p_s1]
    refine ⟨_, rfl, rfl, fun j hj => ?_, fun j hj => ?_⟩
    · exact (upd_ne _ _ (by omega)).trans (h2 j hj)
    · show upd T _ _ _ = _
      by_cases e : j = k
      · rw [e, upd_at]
      · rw [upd_ne _ _ (by omega)]; exact h3 j (by omega)
  · obtain ⟨vk, T⟩ := v
    obtain ⟨h1, h2, h3⟩ := hI
    dsimp only at h1 h2 h3
    subst h1
    unfold fX7_record_L56
    dsimp only
    rw [if_pos (show (12 : Int32) ≤ nI 12 from nI_le (a := 12) (Nat.le_refl 12) (by omega))]
    exact ⟨_, rfl, p_s1 c, rfl, h2, h3⟩
theorem eX7_record {o : OX7} {c : Nat} {H : Nat → Nat × Nat × (Nat → Nat)} (hc : c ≤ 8) (hV : ∀ i, i < c → (H i).2.1 ≤ 10) (hh : HiB (q7_history o) c H) (he : q7_entries o = nI c) {n m : Nat} {F : Nat → Nat} (hm : m ≤ 10) (hN : NowR n m F (q7_now o)) : ∃ z, fX7_record o = some z ∧ q7_entries z = nI (hcn c) ∧ q7_isLaid z = 0 ∧ HiB (q7_history z) (hcn c) (hHn c H (n, m, F)) := by
  unfold fX7_record hcn HiB hHn hcn
  by_cases e : c = 8
  · subst e
    rw [if_pos (show q7_entries o = 8 from he), if_pos rfl]
    have key : ∃ z, lp (fX7_record_L17 o) lpN (12, q7_history o) = some z ∧ ∃ T, fX7_record_J54 o (nI 7) T = some z ∧ ∀ j, j < 84 → T j = q7_history o (j + 12) := by
      refine lp_inv (fun t v => v.1 = nI (12 + t) ∧ (∀ j, j < t → v.2 j = q7_history o (j + 12)) ∧ ∀ j, t ≤ j → v.2 j = q7_history o j) _ 84 ⟨rfl, fun j hj => absurd hj (Nat.not_lt_zero j), fun j _ => rfl⟩ (fun t v ht hI => Or.inl ?_) (fun v hI => ?_) (lpN_gt (by omega))
      · obtain ⟨vt, T⟩ := v
        obtain ⟨h1, h2, h3⟩ := hI
        dsimp only at h1 h2 h3
        subst h1
        unfold fX7_record_L17
        dsimp only
        have e12 : nI (12 + t) - 12 = nI t := by
          rw [show (12 : Int32) = nI 12 from rfl, p_sub (by omega)]
          congr 1; omega
        rw [if_neg (show ¬ (96 : Int32) ≤ nI (12 + t) from nI_ge (b := 96) (by omega) (by omega)), ck_t (p_ok (by omega) (by decide)), e12, ck_t (p_ok (by omega) (by decide)), p_ix (by omega), p_ix (by omega), p_s1]
        refine ⟨_, rfl, rfl, fun j hj => ?_, fun j hj => ?_⟩
        · show upd T _ _ _ = _
          by_cases q : j = t
          · rw [q, upd_at, h3 (12 + t) (by omega), Nat.add_comm]
          · rw [upd_ne _ _ q]; exact h2 j (by omega)
        · exact (upd_ne _ _ (by omega)).trans (h3 j (by omega))
      · obtain ⟨vt, T⟩ := v
        obtain ⟨h1, h2, h3⟩ := hI
        dsimp only at h1 h2 h3
        subst h1
        unfold fX7_record_L17
        dsimp only
        rw [if_pos (show (96 : Int32) ≤ nI (12 + 84) from nI_le (a := 96) (Nat.le_refl 96) (by omega)), show q7_entries o - 1 = nI 7 by rw [he]; rfl]
        obtain ⟨z, z1, _⟩ := eX7_record54 (o := o) (c := 7) (by decide) T
        exact ⟨z, by rw [z1]; rfl, T, z1, h2⟩
    obtain ⟨z, k1, T, k2, k3⟩ := key
    obtain ⟨z', z1, z2, z3, z4, z5⟩ := eX7_record54 (o := o) (c := 7) (by decide) T
    rw [k2] at z1
    cases z1
    refine ⟨z, k1, z2, z3, fun i hi => ?_⟩
    by_cases q : i + 1 = 8
    · rw [if_pos q, show i = 7 by omega]
      exact NowR.cg hm hN fun k hk => z5 k hk
    · rw [if_neg q]
      refine NowR.cg (hV (i + 1) (by omega)) (hh (i + 1) (by omega)) fun k hk => ?_
      show q7_history z (12 * i + k) = q7_history o (12 * (i + 1) + k)
      rw [z4 _ (by omega), k3 _ (by omega)]
      congr 1; omega
  · rw [if_neg (by rw [he, show (8 : Int32) = nI 8 from rfl, p_eq (by omega) (by decide)]; exact e), he, if_neg e]
    obtain ⟨z, z1, z2, z3, z4, z5⟩ := eX7_record54 (o := o) (c := c) (by omega) (q7_history o)
    refine ⟨z, z1, z2, z3, fun i hi => ?_⟩
    by_cases q : i + 1 = c + 1
    · rw [if_pos q, show i = c by omega]
      exact NowR.cg hm hN fun k hk => z5 k hk
    · rw [if_neg q, if_neg e]
      refine NowR.cg (hV i (by omega)) (hh i (by omega)) fun k hk => ?_
      exact z4 _ (by omega)
section CN
variable {n m : Nat} {F : Nat → Nat}
theorem eX6_replaceNow {o : OX6} {y : OX2} (hv : IncV n m F) (hy : IncR n m F y) : ∃ z, fX6_replaceNow o y = some z ∧ IncR n m F (q6_now z) ∧ LatR n m F (q6_lattice z) := by
  obtain ⟨z, z1, z2⟩ := eX2_copyFrom (q6_now o) hy hv.2.2.1
  obtain ⟨w, w1, w2⟩ := eX3_build (q6_lattice o) hv z2
  unfold fX6_replaceNow
  rw [bd_s z1, bd_s w1]
  exact ⟨_, rfl, z2, w2⟩
def ClsN (n m : Nat) (F : Nat → Nat) (c d : Nat) (H : Nat → Nat × Nat × (Nat → Nat)) (o : OX6) : Prop := IncR n m F (q6_now o) ∧ LatR n m F (q6_lattice o) ∧ HiA (q6_history o) c d H
def RefN (n m : Nat) (F : Nat → Nat) (c : Nat) (H : Nat → Nat × Nat × (Nat → Nat)) (r : OX7) : Prop := NowR n m F (q7_now r) ∧ (q7_isLaid r = 0 ∨ LdR n m F r) ∧ HiB (q7_history r) c H ∧ q7_entries r = nI c
theorem eX6_change {o : OX6} {c d : Nat} {H : Nat → Nat × Nat × (Nat → Nat)} (hc : c ≤ 8) (hd : d < 8) (hh : HiA (q6_history o) c d H) (hv : IncV n m F) (hi : IncR n m F (q6_now o)) {n' m' : Nat} {F' : Nat → Nat} (hv' : IncV n' m' F') (hx : IncR n' m' F' (q6_next o)) : ∃ z, fX6_change o = some z ∧ ClsN n' m' F' (hcn c) (hdn c d) (hHn c H (n, m, F)) z := by
  obtain ⟨h, h1, h2⟩ := eX1_add hc hd hh hv hi
  obtain ⟨z, z1, z2, z3⟩ := eX6_replaceNow (o := ((q6_text o), h, (q6_lattice o), (q6_graph o), (q6_matching o), (q6_now o), (q6_saved o), (q6_next o), (q6_hasSaved o))) hv' hx
  unfold fX6_change
  rw [bd_s h1, bd_s z1]
  exact ⟨_, rfl, z2, z3, h2⟩
/-- a ring laid anew, place by place -/
def r8 (R S : Nat → OX2) : Nat → OX2 := (upR (upR (upR (upR (upR (upR (upR (upR R 0 ((q2_sets (S 0)), (q2_points (S 0)), (q2_facets (S 0)))) 1 ((q2_sets (S 1)), (q2_points (S 1)), (q2_facets (S 1)))) 2 ((q2_sets (S 2)), (q2_points (S 2)), (q2_facets (S 2)))) 3 ((q2_sets (S 3)), (q2_points (S 3)), (q2_facets (S 3)))) 4 ((q2_sets (S 4)), (q2_points (S 4)), (q2_facets (S 4)))) 5 ((q2_sets (S 5)), (q2_points (S 5)), (q2_facets (S 5)))) 6 ((q2_sets (S 6)), (q2_points (S 6)), (q2_facets (S 6)))) 7 ((q2_sets (S 7)), (q2_points (S 7)), (q2_facets (S 7))))
theorem r8_at (R S : Nat → OX2) : ∀ k, k < 8 → r8 R S k = S k := fun k hk => by
  unfold r8
  by_cases e7 : k = 7
  · subst e7; exact upR_at _ _ _
  rw [upR_ne _ _ e7]
  by_cases e6 : k = 6
  · subst e6; exact upR_at _ _ _
  rw [upR_ne _ _ e6]
  by_cases e5 : k = 5
  · subst e5; exact upR_at _ _ _
  rw [upR_ne _ _ e5]
  by_cases e4 : k = 4
  · subst e4; exact upR_at _ _ _
  rw [upR_ne _ _ e4]
  by_cases e3 : k = 3
  · subst e3; exact upR_at _ _ _
  rw [upR_ne _ _ e3]
  by_cases e2 : k = 2
  · subst e2; exact upR_at _ _ _
  rw [upR_ne _ _ e2]
  by_cases e1 : k = 1
  · subst e1; exact upR_at _ _ _
  rw [upR_ne _ _ e1, show k = 0 by omega]
  exact upR_at _ _ _
theorem ClsN.up {c d : Nat} {H : Nat → Nat × Nat × (Nat → Nat)} {z : OX6} (h : ClsN n m F c d H z) (t : OX5) (R : Nat → OX2) (tl : Nat → Int32) (g : OX0) (mt : OX4) (sv nx : OX2) (hs : Int32) : ClsN n m F c d H (t, ((upR (upR (upR (upR (upR (upR (upR (upR R 0 ((q2_sets ((q1_ring (q6_history z)) 0)), (q2_points ((q1_ring (q6_history z)) 0)), (q2_facets ((q1_ring (q6_history z)) 0)))) 1 ((q2_sets ((q1_ring (q6_history z)) 1)), (q2_points ((q1_ring (q6_history z)) 1)), (q2_facets ((q1_ring (q6_history z)) 1)))) 2 ((q2_sets ((q1_ring (q6_history z)) 2)), (q2_points ((q1_ring (q6_history z)) 2)), (q2_facets ((q1_ring (q6_history z)) 2)))) 3 ((q2_sets ((q1_ring (q6_history z)) 3)), (q2_points ((q1_ring (q6_history z)) 3)), (q2_facets ((q1_ring (q6_history z)) 3)))) 4 ((q2_sets ((q1_ring (q6_history z)) 4)), (q2_points ((q1_ring (q6_history z)) 4)), (q2_facets ((q1_ring (q6_history z)) 4)))) 5 ((q2_sets ((q1_ring (q6_history z)) 5)), (q2_points ((q1_ring (q6_history z)) 5)), (q2_facets ((q1_ring (q6_history z)) 5)))) 6 ((q2_sets ((q1_ring (q6_history z)) 6)), (q2_points ((q1_ring (q6_history z)) 6)), (q2_facets ((q1_ring (q6_history z)) 6)))) 7 ((q2_sets ((q1_ring (q6_history z)) 7)), (q2_points ((q1_ring (q6_history z)) 7)), (q2_facets ((q1_ring (q6_history z)) 7)))), (q1_oldest (q6_history z)), (q1_count (q6_history z))), ((q3_closed (q6_lattice z)), (q3_ranks (q6_lattice z)), (q3_numbers (q6_lattice z)), (q3_sets (q6_lattice z)), (q3_rankSizes (q6_lattice z)), (q3_size (q6_lattice z)), tl, (q3_points (q6_lattice z)), (q3_all (q6_lattice z))), g, mt, ((q2_sets (q6_now z)), (q2_points (q6_now z)), (q2_facets (q6_now z))), sv, nx, hs) := by
  have e : ∀ i, r8 R (q1_ring (q6_history z)) ((d + i) % 8) = q1_ring (q6_history z) ((d + i) % 8) := fun i => r8_at R _ _ (Nat.mod_lt _ (by decide))
  refine ⟨h.1, h.2.1, h.2.2.1, h.2.2.2.1, fun i hi => ⟨(h.2.2.2.2 i hi).1, ?_⟩⟩
  show IncR _ _ _ (r8 R (q1_ring (q6_history z)) ((d + i) % 8))
  rw [e]
  exact (h.2.2.2.2 i hi).2
theorem eX7_takeMade {o : OX7} (hm : m ≤ 10) (h : NowR n m F (q7_made o)) : ∃ z, fX7_takeMade o = some z ∧ NowR n m F (q7_now z) ∧ q7_isLaid z = 0 := by
  have key : ∃ z, fX7_takeMade o = some z ∧ (∀ k, k < 2 + m → q7_now z k = q7_made o k) ∧ q7_isLaid z = 0 := by
    unfold fX7_takeMade
    refine lp_inv (fun k v => v.1 = nI k ∧ ∀ j, j < k → j < 2 + m → v.2 j = q7_made o j) _ 12 ⟨rfl, fun j hj => absurd hj (Nat.not_lt_zero j)⟩ (fun k v hk hI => Or.inl ?_) (fun v hI => ?_) (lpN_gt (by omega))
    · obtain ⟨vk, T⟩ := v
      obtain ⟨h1, h2⟩ := hI
      dsimp only at h1 h2
      subst h1
      have hok : okI (nI k) 12 = true := p_ok hk (by decide)
      unfold fX7_takeMade_L2
      dsimp only
      rw [if_neg (show ¬ (12 : Int32) ≤ nI k from nI_ge (b := 12) hk (by omega)), h.m, p_2a, ck_t hok, ck_t hok, ck_t hok, p_ix (by omega), p_s1]
      by_cases e : 2 + m ≤ k
      · rw [if_pos (nI_le e (by omega))]
        refine ⟨_, rfl, rfl, fun j hj hj2 => ?_⟩
        exact (upd_ne _ _ (by omega)).trans (h2 j (by omega) hj2)
      · rw [if_neg (nI_ge (by omega) (by omega))]
        refine ⟨_, rfl, rfl, fun j hj hj2 => ?_⟩
        show upd T k _ j = _
        by_cases q : j = k
        · rw [q, upd_at]
        · rw [upd_ne _ _ q]; exact h2 j (by omega) hj2
    · obtain ⟨vk, T⟩ := v
      obtain ⟨h1, h2⟩ := hI
      dsimp only at h1 h2
      subst h1
      unfold fX7_takeMade_L2
      dsimp only
      rw [if_pos (show (12 : Int32) ≤ nI 12 from nI_le (a := 12) (Nat.le_refl 12) (by omega))]
      exact ⟨_, rfl, fun k hk => h2 k (by omega) hk, rfl⟩
  obtain ⟨z, z1, z2, z3⟩ := key
  exact ⟨z, z1, ⟨(z2 0 (by omega)).trans h.1, (z2 1 (by omega)).trans h.2.1, fun f hf => (z2 (2 + f) (by omega)).trans (h.2.2 f hf)⟩, z3⟩
end CN

/-! the class: how many automorphisms, by orbits and stabilisers -/
theorem cp_split (f : List Nat → Nat) (j : Nat) : ∀ L : List (List Nat), L.countP (fun l => decide (f l < j + 1)) = L.countP (fun l => decide (f l < j)) + L.countP (fun l => Nat.beq (f l) j) := by
  intro L
  induction L with
  | nil => rfl
  | cons a L ih =>
    have e : (if decide (f a < j + 1) = true then 1 else 0) = (if decide (f a < j) = true then 1 else 0) + (if Nat.beq (f a) j = true then 1 else 0) := by
      rcases Nat.lt_trichotomy (f a) j with h | h | h
      · rw [if_pos (decide_eq_true (by omega)), if_pos (decide_eq_true h), if_bf (nbeq_f (by omega))]
      · rw [if_pos (decide_eq_true (by omega)), if_bf (decide_eq_false (by omega)), if_pos (beq_t.mpr h)]
      · rw [if_bf (decide_eq_false (by omega)), if_bf (decide_eq_false (by omega)), if_bf (nbeq_f (by omega))]
    rw [List.countP_cons, List.countP_cons, List.countP_cons, ih, e]
    omega
theorem pc_cnt8 (s : Nat) : pc s = cnt (fun i => s.testBit i) 8 := by
  have h := countP_lsM (fun i => s.testBit i) (fun i => i) 8
  rw [show lsM (fun i => i) 8 = List.range 8 from rfl] at h
  exact h
theorem cnt_tail {P : Nat → Bool} {n : Nat} (h : ∀ t, n ≤ t → P t = false) : ∀ d, cnt P (n + d) = cnt P n := by
  intro d
  induction d with
  | zero => rfl
  | succ d ih =>
    rw [← Nat.add_assoc, cnt_s, if_bf (h _ (Nat.le_add_right n d)), ih]
theorem pc_cntn {s n : Nat} (hn : n ≤ 8) (hs : s < 2 ^ n) : pc s = cnt (fun i => s.testBit i) n := by
  have h := cnt_tail (P := fun i => s.testBit i) (n := n) (fun t ht => Nat.testBit_lt_two_pow (Nat.lt_of_lt_of_le hs (p2_lt ht))) (8 - n)
  rw [show n + (8 - n) = 8 by omega] at h
  rw [pc_cnt8]
  exact h
section CON
variable {n m : Nat} {F : Nat → Nat}
/-- what is allowed when the points below k stay -/
def caA (n m : Nat) (F : Nat → Nat) (k i : Nat) : Nat := if i < k then 2 ^ i else alk (sgL (lsM F m)) (sgL (lsM F m) i) n
theorem im1_fb (hn : n ≤ 8) (hF : ∀ f, f < m → F f < 2 ^ n) {k t : Nat} (hk : k < n) : Im1 n m F (caA n m F k) k t ↔ ∃ l, l ∈ fbL n m F k t := by
  constructor
  · rintro ⟨g, h1, h2, h3⟩
    refine ⟨lfn n g, mem_fbL.mpr ⟨mem_stL.mpr ⟨iso_mem h1, fun i hi => ?_⟩, ?_⟩⟩
    · rw [lfn_at _ n i (by omega)]
      have h4 := h2 i (by omega)
      unfold caA at h4
      rw [if_pos hi, Nat.testBit_two_pow, decide_eq_true_eq] at h4
      exact h4.symm
    · rw [lfn_at _ n k hk]
      exact h3
  · rintro ⟨l, hl⟩
    obtain ⟨h1, h2⟩ := mem_fbL.mp hl
    obtain ⟨h3, h4⟩ := mem_stL.mp h1
    have h5 := (mem_iso h3).1
    refine ⟨xl l, h5, fun p hp => ?_, h2⟩
    unfold caA
    by_cases e : p < k
    · rw [if_pos e, show xl l p = p from h4 p e]
      exact Nat.testBit_two_pow_self
    · rw [if_neg e]
      exact alk_iso hn hF h5 hp
theorem st_step (hn : n ≤ 8) (hF : ∀ f, f < m → F f < 2 ^ n) {k s : Nat} (hk : k < n) (hs : s < 2 ^ n) (h : ∀ t, s.testBit t = true ↔ t < n ∧ Im1 n m F (caA n m F k) k t) : (stL n m F k).length = pc s * (stL n m F (k + 1)).length := by
  have hfb : ∀ t, t < n → (stL n m F k).countP (fun l => Nat.beq (l.getD k 0) t) = if s.testBit t = true then (stL n m F (k + 1)).length else 0 := fun t ht => by
    have e : (stL n m F k).countP (fun l => Nat.beq (l.getD k 0) t) = (fbL n m F k t).length := List.countP_eq_length_filter
    rw [e]
    by_cases b : s.testBit t = true
    · rw [if_pos b]
      obtain ⟨l, hl⟩ := (im1_fb hn hF hk).mp ((h t).mp b).2
      exact fb_len hF hk hl
    · rw [if_neg b]
      refine List.length_eq_zero_iff.mpr (List.eq_nil_iff_forall_not_mem.mpr fun l hl => b ?_)
      exact (h t).mpr ⟨ht, (im1_fb hn hF hk).mpr ⟨l, hl⟩⟩
  have hsum : ∀ j, j ≤ n → (stL n m F k).countP (fun l => decide (l.getD k 0 < j)) = cnt (fun t => s.testBit t) j * (stL n m F (k + 1)).length := by
    intro j
    induction j with
    | zero =>
      intro _
      rw [show cnt (fun t => s.testBit t) 0 = 0 from rfl, Nat.zero_mul]
      exact List.countP_eq_zero.mpr fun l _ => by rw [decide_eq_true_eq]; exact Nat.not_lt_zero _
    | succ j ih =>
      intro hj
      rw [cp_split (fun l => l.getD k 0) j, ih (by omega), hfb j (by omega), cnt_s]
      by_cases b : s.testBit j = true
      · rw [if_pos b, if_pos b, Nat.succ_mul]
      · rw [if_neg b, if_neg b, Nat.add_zero]
  have hall : (stL n m F k).countP (fun l => decide (l.getD k 0 < n)) = (stL n m F k).length := List.countP_eq_length.mpr fun l hl => decide_eq_true ((mem_iso (mem_stL.mp hl).1).1.1.1 k hk)
  rw [← hall, hsum n (Nat.le_refl n), pc_cntn hn hs]
theorem stb_0 : stL n m F 0 = elS (isoB n m F F) n n [] := List.filter_eq_self.mpr fun _ _ => rfl
theorem st_n (hF : ∀ f, f < m → F f < 2 ^ n) : (stL n m F n).length = 1 := by
  refine Nat.le_antisymm ?_ ?_
  · refine nd_le (stL n m F n) [lfn n fun i => i] (stL_nd n) (fun a ha => ?_)
    obtain ⟨h1, h2⟩ := mem_stL.mp ha
    rw [List.mem_singleton]
    refine getD_ext _ _ (by rw [lfn_len]; exact (mem_iso h1).2) (fun i hi => ?_)
    have hin : i < n := by rw [(mem_iso h1).2] at hi; exact hi
    rw [lfn_at _ n i hin]
    exact h2 i hin
  · have hm : lfn n (fun i => i) ∈ stL n m F n := mem_stL.mpr ⟨iso_mem (IsoF.id hF fun _ _ => rfl), fun i hi => lfn_at _ n i hi⟩
    exact List.length_pos_of_mem hm
theorem eX4_countOnto {o : OX4} {x : OX2} (hv : IncV n m F) (hx : IncR n m F x) : ∃ r, fX4_countOnto o x = some r ∧ r.1 = nI (isoT n m F n m F).length := by
  have hn := hv.2.1
  have h1n := hv.1
  have h8 := p2_256 hn
  have hal : ∀ k i, i < n → caA n m F k i < 256 := fun k i hi => by
    unfold caA
    split
    · exact Nat.lt_of_lt_of_le (Nat.pow_lt_pow_right (by decide) hi) h8
    · have := alk_lt (sgL (lsM F m)) (sgL (lsM F m) i) n
      omega
  unfold fX4_countOnto
  refine bd_ex (eX4_begin (z := 0) hv hv hx hx (by omega)) (fun b hb => ?_)
  obtain ⟨b1, b2, b3⟩ := hb
  refine lp_inv (fun k v => (∃ c, v.1 = nI c ∧ c * (stL n m F k).length = (stL n m F 0).length) ∧ v.2.1 = nI k ∧ ∀ i, i < n → v.2.2.2.1 i = nI (caA n m F k i)) _ n ⟨⟨1, rfl, Nat.one_mul _⟩, rfl, fun i hi => ?_⟩ (fun k v hk hI => Or.inl ?_) (fun v hI => ?_) (lpN_gt (by omega))
  · unfold caA
    rw [if_neg (Nat.not_lt_zero i)]
    exact b2 i hi
  · obtain ⟨vc, vk, vi, va, vtr, vtt, vta⟩ := v
    obtain ⟨⟨c, g1, g2⟩, g3, g4⟩ := hI
    dsimp only at g1 g3 g4
    subst g1
    subst g3
    unfold fX4_countOnto_L11
    dsimp only
    rw [hx.1, if_neg (nI_ge hk (by omega))]
    refine bd_in (eX4_imagesOf (od := odF 0) (al := caA n m F k) hv hx (odF_ij (by omega)) (hal k) (by exact b1) (by exact g4) hk) (fun w hw => ?_)
    obtain ⟨⟨s, w1, w2, w3⟩, w4⟩ := hw
    rw [w1, bd_s (bitCount_pc (by omega)), ck_t (p_ok (by omega) (by decide)), p_ix (by omega), p_shl1 (by omega), p_mul, p_s1]
    refine ⟨_, rfl, ⟨c * pc s, rfl, ?_⟩, rfl, fun i hi => ?_⟩
    · rw [Nat.mul_assoc, ← st_step hn hv.2.2.2 hk w2 w3]
      exact g2
    · show upd (q4_allowed w.2) k (nI (2 ^ k)) i = _
      by_cases e : i = k
      · rw [e, upd_at]
        unfold caA
        rw [if_pos (Nat.lt_succ_self k)]
      · rw [upd_ne _ _ e, w4 i hi e]
        unfold caA
        by_cases q : i < k
        · rw [if_pos q, if_pos (by omega)]
        · rw [if_neg q, if_neg (by omega)]
  · obtain ⟨vc, vk, vi, va, vtr, vtt, vta⟩ := v
    obtain ⟨⟨c, g1, g2⟩, g3, g4⟩ := hI
    dsimp only at g1 g3 g4
    subst g1
    subst g3
    unfold fX4_countOnto_L11
    dsimp only
    rw [hx.1, if_pos (nI_le (Nat.le_refl n) (by omega))]
    refine ⟨_, rfl, ?_⟩
    rw [st_n hv.2.2.2, Nat.mul_one, stb_0] at g2
    rw [isoT_self, ← g2]
end CON

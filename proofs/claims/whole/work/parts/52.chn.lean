/-! maximal chains -/
theorem upd_upd (f : Nat → Int32) (k : Nat) (x y : Int32) : upd (upd f k x) k y = upd f k y := by
  funext j
  unfold upd
  by_cases h : j = k
  · rw [if_pos h, if_pos h]
  · rw [if_neg h, if_neg h, if_neg h]
theorem sub_ex {g s : Nat} (h : g < 256) (hs : Sb s g) : ∃ j, j < 2 ^ pc g ∧ sub g j = s := by
  have h1 := (mem_SB h).mpr hs
  rw [← sub_map h, List.mem_map] at h1
  obtain ⟨j, h2, h3⟩ := h1
  exact ⟨j, List.mem_range.mp h2, h3⟩
theorem sub_lt {g i j : Nat} (h : g < 256) (hj : j < 2 ^ pc g) (hij : i < j) : sub g i < sub g j := by
  have h1 := SB_pw g
  rw [← sub_map h, List.pairwise_map] at h1
  have h2 := List.pairwise_iff_getElem.mp h1 i j (by rw [List.length_range]; omega) (by rw [List.length_range]; omega) hij
  rw [List.getElem_range, List.getElem_range] at h2
  exact h2
theorem sub_inj {g i j : Nat} (h : g < 256) (hi : i < 2 ^ pc g) (hj : j < 2 ^ pc g) (e : sub g i = sub g j) : i = j := by
  rcases Nat.lt_trichotomy i j with q | q | q
  · have := sub_lt h hj q; omega
  · exact q
  · have := sub_lt h hi q; omega
/-- the lowest point of a set -/
def lw (a : Nat) : Nat := (List.range 8).findIdx fun i => a.testBit i
theorem lw_I : (List.range 256).all (fun a => (List.range 8).all fun p => decide (decide ((nI a &&& -(nI a)) = nI (2 ^ p)) = Nat.beq (lw a) p)) = true := by decide +kernel
theorem lw_bit : (List.range 256).all (fun a => Nat.beq a 0 || (decide (lw a < 8) && a.testBit (lw a))) = true := by decide +kernel
theorem lw_i {a p : Nat} (ha : a < 256) (hp : p < 8) : ((nI a &&& -(nI a)) = nI (2 ^ p)) ↔ lw a = p := by
  have h := of_decide_eq_true (List.all_eq_true.mp (List.all_eq_true.mp lw_I a (List.mem_range.mpr ha)) p (List.mem_range.mpr hp))
  rw [← decide_eq_true_eq (p := (nI a &&& -(nI a)) = nI (2 ^ p)), h]
  exact beq_t
theorem lw_b {a : Nat} (ha : a < 256) (h0 : a ≠ 0) : lw a < 8 ∧ a.testBit (lw a) = true := by
  have h := List.all_eq_true.mp lw_bit a (List.mem_range.mpr ha)
  rw [nbeq_f h0, Bool.false_or, Bool.and_eq_true, decide_eq_true_eq] at h
  exact h
section CH
variable (n m : Nat) (F : Nat → Nat)
/-- the faces that a face covers -/
def bl (s : Nat) : List Nat := (List.range s).filter fun t => fcB n m F t && cvB n m F t s
def chT (lo k : Nat) : Nat → Int32 := itn (fun s G => upd G s ((if s = lo then 1 else 0) + lsum (bl n m F s) G)) (fun _ => 0) k
def ch (lo s : Nat) : Int32 := chT n m F lo (s + 1) s
variable {n m F}
theorem mem_bl {s t : Nat} (hs : s < 2 ^ n) : t ∈ bl n m F s ↔ Fc n m F t ∧ Cv n m F t s := by
  unfold bl
  rw [List.mem_filter, List.mem_range, Bool.and_eq_true, cvB_t]
  refine ⟨fun h => ⟨(fcB_t (by omega)).mp h.2.1, h.2.2⟩, fun h => ⟨h.2.lt, (fcB_t h.1.1).mpr h.1, h.2⟩⟩
theorem bl_nd (s : Nat) : (bl n m F s).Nodup := List.Nodup.sublist List.filter_sublist List.nodup_range
theorem bl_lt {s t : Nat} (h : t ∈ bl n m F s) : t < s := List.mem_range.mp (List.mem_filter.mp h).1
theorem chT_lt {lo k s : Nat} (h : s < k) : chT n m F lo k s = ch n m F lo s := by
  induction k with
  | zero => omega
  | succ k ih =>
    by_cases e : s = k
    · subst e; rfl
    · show upd (chT n m F lo k) k _ s = _
      rw [upd_ne _ _ e]
      exact ih (by omega)
theorem ch_eq (lo s : Nat) : ch n m F lo s = (if s = lo then 1 else 0) + lsum (bl n m F s) (ch n m F lo) := by
  show upd (chT n m F lo s) s _ s = _
  rw [upd_at]
  congr 1
  exact lsum_congr fun t ht => chT_lt (bl_lt ht)
theorem ch_0 {lo : Nat} : ∀ (d s : Nat), s ≤ d → ¬ Sb lo s → ch n m F lo s = 0
  | d, s, hd, h => by
    have hne : ¬ s = lo := fun z => h (by rw [z]; exact Sb.rf lo)
    have e0 : lsum (bl n m F s) (ch n m F lo) = lsum (bl n m F s) (fun _ => 0) := lsum_congr fun t ht => by
      have h1 := bl_lt ht
      have h2 := (List.mem_filter.mp ht).2
      rw [Bool.and_eq_true, cvB_t] at h2
      match d, hd with
      | 0, hd => omega
      | d + 1, hd => exact ch_0 d t (by omega) (fun z => h (Sb.tr z h2.2.1))
    rw [ch_eq, if_neg hne, e0, lsum_0]; rfl
theorem fa_inj {i j : Nat} (hi : i < nf n m F) (hj : j < nf n m F) (e : fa n m F i = fa n m F j) : i = j := by
  rw [← ni_fa hi, ← ni_fa hj, e]
theorem fa_lt {f t : Nat} (hn : n ≤ 8) (hf : f < nf n m F) (ft : Fc n m F t) (h : Sb t (fa n m F f)) (hne : t ≠ fa n m F f) : ni n m F t < f := by
  have h1 := ni_lt hn ft
  have h2 := fa_ni hn ft
  rcases Nat.lt_trichotomy (ni n m F t) f with q | q | q
  · exact q
  · rw [← q, h2] at hne; exact absurd rfl hne
  · have h3 := fa_bf h1 q
    rw [h2] at h3
    have h4 := rk_lt (fa_fc hn hf) ft h hne
    rcases h3 with h3 | h3 <;> omega
theorem map_fa_nd {f : Nat} (hf : f ≤ nf n m F) (P : Nat → Bool) : (((List.range f).filter P).map (fa n m F)).Nodup := by
  refine List.pairwise_map.mpr (List.Pairwise.imp_of_mem (fun {a b} ha hb hab e => hab ?_) (List.Nodup.sublist List.filter_sublist List.nodup_range))
  have h1 := List.mem_range.mp (List.mem_filter.mp ha).1
  have h2 := List.mem_range.mp (List.mem_filter.mp hb).1
  exact fa_inj (by omega) (by omega) e
theorem idx_perm (hn : n ≤ 8) {f : Nat} (hf : f < nf n m F) : (((List.range f).filter fun g => cvB n m F (fa n m F g) (fa n m F f)).map (fa n m F)).Perm (bl n m F (fa n m F f)) := by
  refine (List.perm_ext_iff_of_nodup (map_fa_nd (by omega) _) (bl_nd _)).mpr fun t => ?_
  rw [mem_bl (fa_fc hn hf).1, List.mem_map]
  refine ⟨fun ⟨g, h1, h2⟩ => ?_, fun h => ⟨ni n m F t, ?_, fa_ni hn h.1⟩⟩
  · rw [List.mem_filter, List.mem_range, cvB_t] at h1
    rw [← h2]
    exact ⟨fa_fc hn (by omega), h1.2⟩
  · rw [List.mem_filter, List.mem_range, cvB_t, fa_ni hn h.1]
    exact ⟨fa_lt hn hf h.1 h.2.1 h.2.2.1, h.2⟩
theorem eX7_chainIn {o : OX7} (hn : n ≤ 8) (hL : LaidR n m F (q7_closed o) (q7_faces o) (q7_rankOf o) (q7_placeOf o) (q7_faceMany o)) {f : Nat} (hf : f < nf n m F) (c0 : Nat → Int32) (x5 : Int32) : fX7_chainsOf_J25 o (nI f, c0) x5 = some (.inl (nI (f + 1), upd c0 f (x5 + lsum ((List.range f).filter fun g => cvB n m F (fa n m F g) (fa n m F f)) c0))) := by
  have hnf := nf_256 (m := m) (F := F) hn
  unfold fX7_chainsOf_J25
  dsimp only
  have hok : okI (nI f) 256 = true := p_ok (by omega) (by decide)
  rw [ck_t hok, p_ix (by omega), ← itn_lsum (fun g => cvB n m F (fa n m F g) (fa n m F f)) c0 x5 f]
  refine lp_cnt (fun g x => (nI g, upd c0 f x)) (fun g x => if cvB n m F (fa n m F g) (fa n m F f) = true then x + c0 g else x) x5 f (fun _ _ => True) trivial (fun g x hg _ => ⟨?_, trivial⟩) (fun _ => ?_) (lpN_gt (by omega))
  · unfold fX7_chainsOf_L29
    dsimp only
    rw [if_neg (nI_ge hg (by omega)), ck_t hok, bd_s (eX7_covers hn ?hlaid hf (by omega)), p_ix (by omega), p_ix (by omega), p_s1]
    case hlaid => exact hL
    cases cvB n m F (fa n m F g) (fa n m F f)
    · rw [if0_f rfl, ck_t hok, if_neg Bool.false_ne_true, upd_at, Int32.add_zero, upd_upd]
    · rw [if0_t rfl, ck_t (p_ok (by omega) (by decide)), ck_t hok, if_pos rfl, upd_at, upd_ne _ _ (by omega), upd_upd]
  · unfold fX7_chainsOf_L29
    dsimp only
    rw [if_pos (nI_le (Nat.le_refl f) (by omega)), p_s1]
    rfl
theorem eX7_chainsOf {o : OX7} (hn : n ≤ 8) (hL : LaidR n m F (q7_closed o) (q7_faces o) (q7_rankOf o) (q7_placeOf o) (q7_faceMany o)) {k l : Nat} (hk : k < nf n m F) (hl : l < nf n m F) : ∃ c, fX7_chainsOf o (nI k) (nI l) = some (ch n m F (fa n m F k) (fa n m F l), s7_counted o c) := by
  have hnf := nf_256 (m := m) (F := F) hn
  have key : ∃ z, fX7_chainsOf o (nI k) (nI l) = some z ∧ ∃ c, z = (ch n m F (fa n m F k) (fa n m F l), s7_counted o c) := by
    unfold fX7_chainsOf
    refine lp_inv (fun f v => v.1 = nI f ∧ ∀ j, j < f → v.2 j = ch n m F (fa n m F k) (fa n m F j)) _ (nf n m F) ⟨rfl, fun j hj => absurd hj (Nat.not_lt_zero j)⟩ (fun f v hf hI => Or.inl ?_) (fun v hI => ?_) (lpN_gt (by omega))
    · obtain ⟨vf, c0⟩ := v
      obtain ⟨h1, h2⟩ := hI
      dsimp only at h1 h2
      subst h1
      unfold fX7_chainsOf_L2
      dsimp only
      rw [show q7_faceMany o = nI (nf n m F) from hL.2.2.1, if_neg (nI_ge hf (by omega)), eX7_chainIn hn hL hf, eX7_chainIn hn hL hf, ifq (by omega) (by omega)]
      have e : lsum ((List.range f).filter fun g => cvB n m F (fa n m F g) (fa n m F f)) c0 = lsum (bl n m F (fa n m F f)) (ch n m F (fa n m F k)) := by
        rw [← lsum_perm (idx_perm hn hf), lsum_map]
        exact lsum_congr fun t ht => h2 t (List.mem_range.mp (List.mem_filter.mp ht).1)
      rw [e]
      have e2 : (if f = k then (1 : Int32) else 0) + lsum (bl n m F (fa n m F f)) (ch n m F (fa n m F k)) = ch n m F (fa n m F k) (fa n m F f) := by
        rw [ch_eq (fa n m F k) (fa n m F f)]
        congr 1
        by_cases q : f = k
        · rw [if_pos q, q, if_pos rfl]
        · rw [if_neg q, if_neg (fun z => q (fa_inj hf hk z))]
      by_cases q : f = k
      · rw [if_pos q]
        rw [if_pos q] at e2
        rw [e2]
        refine ⟨_, rfl, rfl, fun j hj => ?_⟩
        show upd c0 f _ j = _
        by_cases z : j = f
        · rw [z, upd_at]
        · rw [upd_ne _ _ z]; exact h2 j (by omega)
      · rw [if_neg q]
        rw [if_neg q] at e2
        rw [e2]
        refine ⟨_, rfl, rfl, fun j hj => ?_⟩
        show upd c0 f _ j = _
        by_cases z : j = f
        · rw [z, upd_at]
        · rw [upd_ne _ _ z]; exact h2 j (by omega)
    · obtain ⟨vf, c0⟩ := v
      obtain ⟨h1, h2⟩ := hI
      dsimp only at h1 h2
      subst h1
      unfold fX7_chainsOf_L2
      dsimp only
      rw [show q7_faceMany o = nI (nf n m F) from hL.2.2.1, if_pos (nI_le (Nat.le_refl _) (by omega)), ck_t (p_ok (by omega) (by decide)), p_ix (by omega), h2 l hl]
      exact ⟨_, rfl, c0, rfl⟩
  obtain ⟨z, h1, c, rfl⟩ := key
  exact ⟨c, h1⟩
/-- whether the point leads a face up to a cover, as its lowest new point -/
def cbB (n m : Nat) (F : Nat → Nat) (a p : Nat) : Bool := Nat.beq (lw (dif (cl n m F (a ||| 2 ^ p)) a)) p && cvB n m F a (cl n m F (a ||| 2 ^ p))
theorem eX3_coverBy {x : OX3} (hn : n ≤ 8) (hp : q3_points x = nI n) (hc : ClM n m F (q3_closed x)) {a p : Nat} (ha : a < 2 ^ n) (hpn : p < n) : fX3_coverBy x (nI a) (nI p) = some (if cbB n m F a p = true then nI (cl n m F (a ||| 2 ^ p)) else -1) := by
  have h8 := p2_256 hn
  have ho := or_p2 ha hpn
  have hcl := cl_lt n m F (a ||| 2 ^ p)
  have hd : dif (cl n m F (a ||| 2 ^ p)) a < 256 := dif_lt (by omega)
  unfold fX3_coverBy
  rw [p_shl1 (by omega), p_or, ck_t (p_ok (by omega) (by decide)), p_ix (by omega), hc _ ho, p_dif]
  unfold cbB
  by_cases g : lw (dif (cl n m F (a ||| 2 ^ p)) a) = p
  · rw [if_pos ((lw_i hd (by omega)).mpr g), beq_t.mpr g, Bool.true_and]
    unfold fX3_coverBy_J35
    rw [if_neg n10, p_shl1 (by omega), p_or, p_ix (by omega), hc _ ho, bd_s (eX3_isCover hn hp hc hcl ha)]
    cases cvB n m F a (cl n m F (a ||| 2 ^ p)) <;> rfl
  · rw [if_neg (fun z => g ((lw_i hd (by omega)).mp z)), nbeq_f g, Bool.false_and, if_neg Bool.false_ne_true]
    unfold fX3_coverBy_J35
    rw [if_pos rfl]
/-- each cover is met at its lowest new point only -/
theorem cv_lw (hn : n ≤ 8) {a u : Nat} (hu : u < 2 ^ n) (h : Cv n m F a u) : lw (dif u a) < n ∧ u.testBit (lw (dif u a)) = true ∧ cl n m F (a ||| 2 ^ lw (dif u a)) = u := by
  have h8 := p2_256 hn
  have h0 : dif u a ≠ 0 := fun z => h.2.1 (Sb.as h.1 (Sb.of z))
  have h1 := lw_b (dif_lt (by omega)) h0
  have h2 := h1.2
  rw [tb_dif, Bool.and_eq_true, Bool.not_eq_true'] at h2
  have h3 := tb_of_lt hu h2.1
  exact ⟨h3, h2.1, h.2.2 _ h3 h2.1 h2.2⟩
theorem eX3_passOn {x : OX3} (hn : n ≤ 8) (hp : q3_points x = nI n) (hc : ClM n m F (q3_closed x)) {a up : Nat} (fu : Fc n m F up) (hau : Sb a up) : ∃ T, fX3_passOn x (nI a) (nI up) = some (s3_tally x T) ∧ ∀ u, u < 2 ^ n → T u = q3_tally x u + (if (cvB n m F a u && sbB u up) = true then q3_tally x a else 0) := by
  have h8 := p2_256 hn
  have ha := sb_lt hau fu.1
  have hu1 := fu.1
  have key : ∃ z, fX3_passOn x (nI a) (nI up) = some z ∧ ∃ T, z = s3_tally x T ∧ ∀ u, u < 2 ^ n → T u = q3_tally x u + (if (cvB n m F a u && sbB u up) = true then q3_tally x a else 0) := by
    unfold fX3_passOn
    refine lp_inv (fun p v => v.1 = nI p ∧ ∀ u, u < 2 ^ n → v.2 u = q3_tally x u + (if (cvB n m F a u && (sbB u up && decide (lw (dif u a) < p))) = true then q3_tally x a else 0)) _ n ⟨rfl, fun u hu => ?_⟩ (fun p v hpn hI => Or.inl ?_) (fun v hI => ?_) (lpN_gt (by omega))
    · rw [decide_eq_false (Nat.not_lt_zero _), Bool.and_false, Bool.and_false, if_neg Bool.false_ne_true, Int32.add_zero]
    · obtain ⟨vp, T⟩ := v
      obtain ⟨h1, h2⟩ := hI
      dsimp only at h1 h2
      subst h1
      unfold fX3_passOn_L2
      dsimp only
      rw [hp, if_neg (nI_ge hpn (by omega)), p_bit1 (by omega) (by omega), bd_s (eX3_coverBy hn ?hpp ?hcc ha hpn)]
      case hpp => exact hp
      case hcc => exact hc
      have go : ∀ (S : Nat → Int32), (∀ u, u < 2 ^ n → S u = T u + (if u = cl n m F (a ||| 2 ^ p) ∧ cbB n m F a p = true ∧ up.testBit p = true then q3_tally x a else 0)) → ∀ u, u < 2 ^ n → S u = q3_tally x u + (if (cvB n m F a u && (sbB u up && decide (lw (dif u a) < p + 1))) = true then q3_tally x a else 0) := by
        intro S hS u hu
        rw [hS u hu, h2 u hu, Int32.add_assoc]
        congr 1
        by_cases e : (cvB n m F a u && (sbB u up && decide (lw (dif u a) < p))) = true
        · have e1 := e
          rw [Bool.and_eq_true, Bool.and_eq_true, decide_eq_true_eq, cvB_t] at e1
          have e3 : (cvB n m F a u && (sbB u up && decide (lw (dif u a) < p + 1))) = true := by
            rw [Bool.and_eq_true, Bool.and_eq_true, decide_eq_true_eq, cvB_t]; exact ⟨e1.1, e1.2.1, by omega⟩
          have e4 : ¬ (u = cl n m F (a ||| 2 ^ p) ∧ cbB n m F a p = true ∧ up.testBit p = true) := fun z => by
            have z2 := z.2.1
            unfold cbB at z2
            rw [← z.1, Bool.and_eq_true, beq_t] at z2
            omega
          rw [if_pos e, if_pos e3, if_neg e4, Int32.add_zero]
        · rw [if_neg e, Int32.zero_add]
          by_cases e2 : u = cl n m F (a ||| 2 ^ p) ∧ cbB n m F a p = true ∧ up.testBit p = true
          · rw [if_pos e2, if_pos]
            obtain ⟨z1, z2, z3⟩ := e2
            unfold cbB at z2
            rw [← z1, Bool.and_eq_true, beq_t] at z2
            rw [Bool.and_eq_true, Bool.and_eq_true, decide_eq_true_eq, sbB_t]
            refine ⟨z2.2, ?_, by omega⟩
            rw [z1]
            exact cl_le fu (sb_or.mpr ⟨hau, sb_p2.mpr z3⟩)
          · rw [if_neg e2, if_neg]
            intro z
            rw [Bool.and_eq_true, Bool.and_eq_true, decide_eq_true_eq, sbB_t, cvB_t] at z
            obtain ⟨z1, z2, z3⟩ := z
            have hlw : lw (dif u a) = p := by
              rcases Nat.lt_or_ge (lw (dif u a)) p with q | q
              · refine absurd ?_ e
                rw [Bool.and_eq_true, Bool.and_eq_true, decide_eq_true_eq, sbB_t, cvB_t]
                exact ⟨z1, z2, q⟩
              · omega
            obtain ⟨y1, y2, y3⟩ := cv_lw hn hu z1
            rw [hlw] at y2 y3
            refine e2 ⟨y3.symm, ?_, z2 p y2⟩
            unfold cbB
            rw [y3, Bool.and_eq_true, beq_t, cvB_t]
            exact ⟨hlw, z1⟩
      have hTa : T a = q3_tally x a := by
        rw [h2 a ha, cvB_f (fun z => z.2.1 rfl), Bool.false_and, if_neg Bool.false_ne_true, Int32.add_zero]
      have hcl := cl_lt n m F (a ||| 2 ^ p)
      unfold fX3_passOn_J29
      dsimp only
      rw [p_s1]
      rcases bool_ft (up.testBit p) with g1 | g1
      · rw [g1, if1_f rfl, if_pos rfl]
        refine ⟨_, rfl, rfl, go T fun u hu => ?_⟩
        rw [if_neg (fun z => by rw [g1] at z; cases z.2.2), Int32.add_zero]
      · rw [g1, if1_t rfl]
        rcases bool_ft (cbB n m F a p) with g2 | g2
        · rw [if_bf g2, if_pos rfl]
          refine ⟨_, rfl, rfl, go T fun u hu => ?_⟩
          rw [if_neg (fun z => by rw [g2] at z; cases z.2.1), Int32.add_zero]
        · have hoc : okI (nI (cl n m F (a ||| 2 ^ p))) 256 = true := p_ok (by omega) (by decide)
          rw [if_pos g2, if_neg (by rw [p_nm1 (by omega)]; exact id), ck_t hoc, ck_t (p_ok (by omega) (by decide)), ck_t hoc, p_ix (by omega), p_ix (by omega), hTa]
          refine ⟨_, rfl, rfl, go _ fun u hu => ?_⟩
          show upd T _ _ u = _
          by_cases e : u = cl n m F (a ||| 2 ^ p)
          · rw [e, upd_at, if_pos ⟨rfl, g2, g1⟩]
          · rw [upd_ne _ _ e, if_neg (fun z => e z.1), Int32.add_zero]
    · obtain ⟨vp, T⟩ := v
      obtain ⟨h1, h2⟩ := hI
      dsimp only at h1 h2
      subst h1
      unfold fX3_passOn_L2
      dsimp only
      rw [hp, if_pos (nI_le (Nat.le_refl n) (by omega))]
      refine ⟨_, rfl, T, rfl, fun u hu => ?_⟩
      rw [h2 u hu]
      congr 1
      by_cases e : cvB n m F a u = true
      · have := (cv_lw hn hu (cvB_t.mp e)).1
        rw [decide_eq_true this, Bool.and_true]
      · rw [cvB_f (fun z => e (cvB_t.mpr z)), Bool.false_and, Bool.false_and]
  obtain ⟨z, h1, T, rfl, h2⟩ := key
  exact ⟨T, h1, h2⟩
theorem eX3_clearTally (x : OX3) {lo up : Nat} (hl : lo < 256) (hu : up < 256) (h : Sb lo up) : ∃ T, fX3_clearTally x (nI lo) (nI up) = some (s3_tally x T) ∧ ∀ t, Sb lo t → Sb t up → T t = 0 := by
  have hg : dif up lo < 256 := dif_lt hu
  have hpc := pc_256 (dif up lo)
  have key : ∃ z, fX3_clearTally x (nI lo) (nI up) = some z ∧ ∃ T, z = s3_tally x T ∧ ∀ t, Sb lo t → Sb t up → T t = 0 := by
    unfold fX3_clearTally
    rw [p_dif, bd_s (eX3_partsOf hg)]
    refine lp_inv (fun k v => v.1 = nI (sub (dif up lo) k) ∧ v.2.1 = nI k ∧ ∀ j, j < k → v.2.2 (lo ||| sub (dif up lo) j) = 0) _ (2 ^ pc (dif up lo)) ⟨rfl, rfl, fun j hj => absurd hj (Nat.not_lt_zero j)⟩ (fun k v hk hI => Or.inl ?_) (fun v hI => ?_) (lpN_gt (by omega))
    · obtain ⟨vs, vk, T⟩ := v
      obtain ⟨h1, h2, h3⟩ := hI
      dsimp only at h1 h2 h3
      subst h1 h2
      unfold fX3_clearTally_L18
      dsimp only
      have ht := Nat.lt_of_le_of_lt (or_sb h (sub_sb hg hk)).le hu
      rw [if_neg (nI_ge hk (by omega)), p_or, ck_t (p_ok ht (by decide)), p_dif, bd_s (eX3_partAfter hg hk), p_s1, p_ix (by omega)]
      refine ⟨_, rfl, rfl, rfl, fun j hj => ?_⟩
      show upd T _ 0 _ = 0
      by_cases e : lo ||| sub (dif up lo) j = lo ||| sub (dif up lo) k
      · rw [e, upd_at]
      · rw [upd_ne _ _ e]
        exact h3 j (by
          by_cases q : j = k
          · exact absurd (by rw [q]) e
          · omega)
    · obtain ⟨vs, vk, T⟩ := v
      obtain ⟨h1, h2, h3⟩ := hI
      dsimp only at h1 h2 h3
      subst h1 h2
      unfold fX3_clearTally_L18
      dsimp only
      rw [if_pos (nI_le (Nat.le_refl _) (by omega))]
      refine ⟨_, rfl, T, rfl, fun t a1 a2 => ?_⟩
      obtain ⟨j, b1, b2⟩ := sub_ex hg (dif_sb (lo := lo) a2)
      have := h3 j b1
      rw [b2, or_dif a1] at this
      exact this
  obtain ⟨z, h1, T, rfl, h2⟩ := key
  exact ⟨T, h1, h2⟩
theorem ch_sub (hn : n ≤ 8) {lo up : Nat} (hu : up < 2 ^ n) (h : Sb lo up) {k K : Nat} (hk : k ≤ K) (hK : K ≤ 2 ^ pc (dif up lo)) {s : Nat} (hs : ∃ j, j < 2 ^ pc (dif up lo) ∧ j ≤ k ∧ lo ||| sub (dif up lo) j = s) : lsum (((List.range K).map fun j => lo ||| sub (dif up lo) j).filter fun t => fcB n m F t && cvB n m F t s) (ch n m F lo) = lsum (bl n m F s) (ch n m F lo) := by
  have h8 := p2_256 hn
  have hg : dif up lo < 256 := dif_lt (by omega)
  obtain ⟨j0, hj1, hj2, rfl⟩ := hs
  have hsu := or_sb h (sub_sb hg hj1)
  have e1 : lsum (bl n m F (lo ||| sub (dif up lo) j0)) (ch n m F lo) = lsum ((bl n m F (lo ||| sub (dif up lo) j0)).filter fun t => sbB lo t) (ch n m F lo) := by
    rw [lsum_filter]
    refine lsum_congr fun t ht => ?_
    by_cases e : Sb lo t
    · rw [if_pos (sbB_t.mpr e)]
    · rw [if_bf (sbB_f e), ch_0 t t (Nat.le_refl t) e]
  rw [e1]
  refine lsum_perm ((List.perm_ext_iff_of_nodup ?_ (List.Nodup.sublist List.filter_sublist (bl_nd _))).mpr fun t => ?_) _
  · refine List.Nodup.sublist List.filter_sublist (List.pairwise_map.mpr (List.Pairwise.imp_of_mem (fun {a b} ha hb hab e => hab ?_) List.nodup_range))
    have ha := List.mem_range.mp ha
    have hb := List.mem_range.mp hb
    have q1 := dif_or (sub_sb hg (k := a) (by omega))
    have q2 := dif_or (sub_sb hg (k := b) (by omega))
    rw [e] at q1
    exact sub_inj hg (by omega) (by omega) (q1.symm.trans q2)
  · rw [List.mem_filter, List.mem_filter, List.mem_map, mem_bl (sb_lt hsu hu), Bool.and_eq_true, sbB_t, cvB_t]
    constructor
    · rintro ⟨⟨j, a1, rfl⟩, a2, a3⟩
      exact ⟨⟨(fcB_t (Nat.lt_of_lt_of_le a3.lt (Nat.le_of_lt (sb_lt hsu hu)))).mp a2, a3⟩, sb_orl _ _⟩
    · rintro ⟨⟨a1, a2⟩, a3⟩
      refine ⟨?_, (fcB_t a1.1).mpr a1, a2⟩
      obtain ⟨j, b1, b2⟩ := sub_ex hg (dif_sb (lo := lo) (Sb.tr a2.1 hsu))
      have b3 : lo ||| sub (dif up lo) j = t := by rw [b2, or_dif a3]
      refine ⟨j, List.mem_range.mpr ?_, b3⟩
      have b4 : Sb (sub (dif up lo) j) (sub (dif up lo) j0) := by
        rw [b2, ← dif_or (sub_sb hg hj1)]
        exact dif_sb a2.1
      rcases Nat.lt_or_ge j j0 with q | q
      · omega
      · by_cases q2 : j = j0
        · exact absurd (by rw [← b3, q2]) a2.2.1
        · have := sub_lt hg b1 (i := j0) (by omega)
          have := b4.le
          omega
theorem eX3_countChains {x : OX3} (hn : n ≤ 8) (h : LatR n m F x) {lo up : Nat} (fl0 : Fc n m F lo) (fu : Fc n m F up) : ∃ z, fX3_countChains x (nI lo) (nI up) = some (ch n m F lo up, z) := by
  have h8 := p2_256 hn
  have hl1 := fl0.1
  have hu1 := fu.1
  have hg : dif up lo < 256 := dif_lt (by omega)
  have hpc := pc_256 (dif up lo)
  unfold fX3_countChains
  rw [p_dif, p_dif, ifq0 (dif_lt (by omega))]
  by_cases g : dif lo up = 0
  · have hS := Sb.of g
    obtain ⟨T, t1, t2⟩ := eX3_clearTally x (lo := lo) (up := up) (by omega) (by omega) hS
    rw [if_pos g, bd_s t1, ck_t (p_ok (by omega) (by decide)), bd_s (eX3_partsOf hg), p_ix (by omega)]
    have key : ∃ z, lp (fX3_countChains_L41 x (nI lo) (nI up) (nI (2 ^ pc (dif up lo)))) lpN (0, 0, upd (q3_tally (s3_tally x T)) lo 1) = some z ∧ z.1 = ch n m F lo up := by
      refine lp_inv (fun k v => v.1 = nI (sub (dif up lo) k) ∧ v.2.1 = nI k ∧ ∀ t, Sb lo t → Sb t up → v.2.2 t = (if t = lo then 1 else 0) + lsum (((List.range k).map fun j => lo ||| sub (dif up lo) j).filter fun s => fcB n m F s && cvB n m F s t) (ch n m F lo)) _ (2 ^ pc (dif up lo)) ⟨rfl, rfl, fun t a1 a2 => ?_⟩ (fun k v hk hI => Or.inl ?_) (fun v hI => ?_) (lpN_gt (by omega))
      · show upd T lo 1 t = _ + 0
        rw [Int32.add_zero]
        by_cases e : t = lo
        · rw [if_pos e, e, upd_at]
        · rw [if_neg e, upd_ne _ _ e, t2 t a1 a2]
      · obtain ⟨vs, vk, S⟩ := v
        obtain ⟨h1, h2, h3⟩ := hI
        dsimp only at h1 h2 h3
        subst h1 h2
        unfold fX3_countChains_L41
        dsimp only
        have hs := sub_sb hg hk
        have hsu := or_sb hS hs
        have hslt := sb_lt hsu hu1
        have hap : ∀ t, lsum (((List.range (k + 1)).map fun j => lo ||| sub (dif up lo) j).filter fun s => fcB n m F s && cvB n m F s t) (ch n m F lo) = lsum (((List.range k).map fun j => lo ||| sub (dif up lo) j).filter fun s => fcB n m F s && cvB n m F s t) (ch n m F lo) + (if (fcB n m F (lo ||| sub (dif up lo) k) && cvB n m F (lo ||| sub (dif up lo) k) t) = true then ch n m F lo (lo ||| sub (dif up lo) k) else 0) := fun t => by
          rw [List.range_succ, List.map_append, List.filter_append, lsum_append]
          congr 1
          rw [List.map_cons, List.map_nil, List.filter_cons]
          split
          · rw [List.filter_nil, lsum_one]
          · rfl
        rw [if_neg (nI_ge hk (by omega)), p_or, bd_s (eX3_isFace hn ?hcl hslt)]
        case hcl => exact h.cl
        rcases bool_ft (fcB n m F (lo ||| sub (dif up lo) k)) with q | q
        · rw [if0_f q]
          unfold fX3_countChains_J68
          rw [p_dif, bd_s (eX3_partAfter hg hk), p_s1]
          refine ⟨_, rfl, rfl, rfl, fun t a1 a2 => ?_⟩
          rw [hap, q, Bool.false_and, if_neg Bool.false_ne_true, Int32.add_zero]
          exact h3 t a1 a2
        · obtain ⟨S2, c1, c2⟩ := eX3_passOn (x := s3_tally x S) hn h.1.1 h.cl fu hsu
          rw [if0_t q, bd_s c1]
          unfold fX3_countChains_J68
          rw [p_dif, bd_s (eX3_partAfter hg hk), p_s1]
          refine ⟨_, rfl, rfl, rfl, fun t a1 a2 => ?_⟩
          show S2 t = _
          rw [c2 t (sb_lt a2 hu1), hap, q, Bool.true_and, sbB_t.mpr a2, Bool.and_true]
          show S t + (if _ then S (lo ||| sub (dif up lo) k) else 0) = _
          rw [h3 t a1 a2, Int32.add_assoc]
          congr 2
          rw [h3 _ (sb_orl _ _) hsu, ch_sub hn hu1 hS (Nat.le_refl k) (Nat.le_of_lt hk) ⟨k, hk, Nat.le_refl k, rfl⟩, ← ch_eq]
      · obtain ⟨vs, vk, S⟩ := v
        obtain ⟨h1, h2, h3⟩ := hI
        dsimp only at h1 h2 h3
        subst h1 h2
        unfold fX3_countChains_L41
        dsimp only
        rw [if_pos (nI_le (Nat.le_refl _) (by omega)), ck_t (p_ok (by omega) (by decide)), p_ix (by omega)]
        refine ⟨_, rfl, ?_⟩
        show S up = _
        obtain ⟨j, b1, b2⟩ := sub_ex hg (Sb.rf (dif up lo))
        rw [h3 up hS (Sb.rf up), ch_sub hn hu1 hS (k := 2 ^ pc (dif up lo)) (Nat.le_refl _) (Nat.le_refl _) ⟨j, b1, Nat.le_of_lt b1, by rw [b2, or_dif hS]⟩, ← ch_eq]
    obtain ⟨⟨z1, z2⟩, h1, h2⟩ := key
    dsimp only at h2
    subst h2
    exact ⟨z2, h1⟩
  · rw [if_neg g, ch_0 up up (Nat.le_refl _) (fun z => g z.d)]
    exact ⟨_, rfl⟩
end CH

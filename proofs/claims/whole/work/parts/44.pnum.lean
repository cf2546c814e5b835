/-! the faces' numbers: the class's arrays -/
section PN
variable (n m : Nat) (F : Nat → Nat)
/-- how many faces, the face of a number, the number of a face -/
def nf : Nat := (fl n m F).length
def fa (k : Nat) : Nat := (fl n m F).getD k 0
def ni (s : Nat) : Nat := (fl n m F).idxOf s
variable {n m F}
theorem fa_get {k : Nat} (h : k < nf n m F) : fa n m F k = (fl n m F)[k]'h := by
  unfold fa
  rw [List.getD_eq_getElem?_getD, List.getElem?_eq_getElem h]; rfl
theorem fa_fc (hn : n ≤ 8) {k : Nat} (h : k < nf n m F) : Fc n m F (fa n m F k) := by
  rw [fa_get h]
  exact (mem_fl hn).mp (List.getElem_mem h)
theorem ni_lt (hn : n ≤ 8) {s : Nat} (h : Fc n m F s) : ni n m F s < nf n m F := List.idxOf_lt_length_of_mem ((mem_fl hn).mpr h)
theorem fa_ni (hn : n ≤ 8) {s : Nat} (h : Fc n m F s) : fa n m F (ni n m F s) = s := by
  rw [fa_get (ni_lt hn h)]
  exact List.getElem_idxOf _
theorem ni_fa {k : Nat} (h : k < nf n m F) : ni n m F (fa n m F k) = k := by
  rw [fa_get h]
  exact (fl_nd 9).idxOf_getElem k h
theorem fa_bf {k l : Nat} (hl : l < nf n m F) (h : k < l) : Bf n m F (fa n m F k) (fa n m F l) := by
  rw [fa_get hl, fa_get (Nat.lt_trans h hl)]
  exact List.pairwise_iff_getElem.mp (fl_pw 9) k l _ _ h
theorem nd_256 {l : List Nat} (hd : l.Nodup) (h : ∀ x ∈ l, x < 2 ^ n) : l.length ≤ 2 ^ n := by
  have := List.Nodup.length_le_of_subset hd (l₂ := List.range (2 ^ n)) (fun x hx => List.mem_range.mpr (h x hx))
  rw [List.length_range] at this
  exact this
theorem nf_le : nf n m F ≤ 2 ^ n := nd_256 (fl_nd 9) fun x hx => (mem_flT.mp hx).1.1
theorem flR_nd (r k : Nat) : (flR n m F r k).Nodup := List.Nodup.sublist List.filter_sublist List.nodup_range
theorem flTR_nd {r k : Nat} (hk : k ≤ 2 ^ n) : (flT n m F r ++ flR n m F r k).Nodup := by
  rw [List.nodup_append]
  refine ⟨fl_nd r, flR_nd r k, fun a ha b hb e => ?_⟩
  subst e
  have h1 := mem_flT.mp ha
  have h2 := (mem_flR hk).mp hb
  omega
/-- sets and numbers of the faces in a list -/
def NumI (n : Nat) (L : List Nat) (size : Int32) (numbers sets : Nat → Int32) : Prop := size = nI L.length ∧ (∀ k, k < L.length → sets k = nI (L.getD k 0)) ∧ (∀ k, k < L.length → numbers (L.getD k 0) = nI k) ∧ ∀ s, s < 2 ^ n → s ∉ L → numbers s = -1
theorem getD_l (L : List Nat) (s : Nat) {k : Nat} (h : k < L.length) : (L ++ [s]).getD k 0 = L.getD k 0 := by
  rw [List.getD_eq_getElem?_getD, List.getD_eq_getElem?_getD, List.getElem?_append_left h]
theorem getD_e (L : List Nat) (s : Nat) : (L ++ [s]).getD L.length 0 = s := by
  rw [List.getD_eq_getElem?_getD, List.getElem?_append_right (Nat.le_refl _), Nat.sub_self]; rfl
theorem getD_mem {L : List Nat} {k : Nat} (h : k < L.length) : L.getD k 0 ∈ L := by
  rw [List.getD_eq_getElem?_getD, List.getElem?_eq_getElem h]
  exact List.getElem_mem h
theorem NumI_add {L : List Nat} {size : Int32} {nu se : Nat → Int32} (h : NumI n L size nu se) {s : Nat} (hs : s ∉ L) (hL : L.length < 256) (h8 : s < 2147483648) : NumI n (L ++ [s]) (size + 1) (upd nu (ix (nI s)) size) (upd se (ix size) (nI s)) := by
  obtain ⟨h1, h2, h3, h4⟩ := h
  subst h1
  refine ⟨by rw [p_s1, List.length_append]; rfl, fun k hk => ?_, fun k hk => ?_, fun t ht hm => ?_⟩
  · rw [List.length_append, List.length_singleton] at hk
    rw [p_ix (by omega)]
    by_cases e : k = L.length
    · rw [e, upd_at, getD_e]
    · rw [upd_ne _ _ e, getD_l L s (by omega)]; exact h2 k (by omega)
  · rw [List.length_append, List.length_singleton] at hk
    rw [p_ix h8]
    by_cases e : k = L.length
    · rw [e, getD_e, upd_at]
    · rw [getD_l L s (by omega), upd_ne _ _ (fun z => hs (by have w := getD_mem (L := L) (k := k) (by omega); rw [z] at w; exact w))]; exact h3 k (by omega)
  · rw [List.mem_append, List.mem_singleton] at hm
    rw [p_ix h8, upd_ne _ _ (fun z => hm (Or.inr z))]
    exact h4 t ht (fun z => hm (Or.inl z))
theorem eX3_numIn {x : OX3} (hv : IncV n m F) (hc : ClR n m F x) (hr : RR n m F (q3_ranks x) (rk n m F)) {r : Nat} (hr9 : r < 9) {size : Int32} {nu se rs : Nat → Int32} (h0 : NumI n (flT n m F r) size nu se) : ∃ q, lp (fX3_numberFaces_L20 x (nI r, size, nu, se, rs)) lpN (0, size, nu, se) = some q ∧ ∃ size' nu' se', q = .inl (nI (r + 1), size', nu', se', upd rs r (nI (flR n m F r (2 ^ n)).length)) ∧ NumI n (flT n m F (r + 1)) size' nu' se' := by
  have hn := hv.2.1
  have h8 := p2_256 hn
  have hp := p2_pos n
  refine lp_inv (fun k v => v.1 = nI k ∧ NumI n (flT n m F r ++ flR n m F r k) v.2.1 v.2.2.1 v.2.2.2) _ (2 ^ n) ⟨rfl, by rw [show flR n m F r 0 = [] from rfl, List.append_nil]; exact h0⟩ (fun k v hk hI => Or.inl ?_) (fun v hI => ?_) (lpN_gt (by omega))
  · obtain ⟨vk, vs, vn, vse⟩ := v
    obtain ⟨h1, h2⟩ := hI
    dsimp only at h1 h2
    subst h1
    unfold fX3_numberFaces_L20
    dsimp only
    rw [hc.2.1, if_neg (nI_nlt (by omega) (by omega)), bd_s (eX3_isFace (x := s3_size (s3_rankSizes (s3_sets (s3_numbers x vn) vse) rs) vs) hn hc.2.2 hk), flR_s, ← List.append_assoc]
    by_cases fk : Fc n m F k
    · rw [if0_t ((fcB_t hk).mpr fk), ck_t (p_ok (by omega) (by decide)), p_ix (by omega), hr k fk]
      have b := rk_8 hn fk
      by_cases e : rk n m F k = r
      · have hsz : vs = nI (flT n m F r ++ flR n m F r k).length := h2.1
        have hnm : k ∉ flT n m F r ++ flR n m F r k := fun z => by
          rcases List.mem_append.mp z with z | z
          · have := (mem_flT.mp z).2; omega
          · have := ((mem_flR (Nat.le_of_lt hk)).mp z).1; omega
        have hlen : (flT n m F r ++ flR n m F r k).length < 256 := by
          have hd : (flT n m F r ++ flR n m F r (k + 1)).Nodup := flTR_nd hk
          have h3 := nd_256 hd (n := n) (fun y hy => by
            rcases List.mem_append.mp hy with z | z
            · exact (mem_flT.mp z).1.1
            · exact ((mem_flR hk).mp z).2.1.1)
          rw [flR_s, (fcB_t hk).mpr fk, beq_t.mpr e, ← List.append_assoc, List.length_append] at h3
          simp only [Bool.and_true, if_true, List.length_singleton] at h3
          omega
        have hok : okI vs 256 = true := by rw [hsz]; exact p_ok hlen (by decide)
        rw [if_pos (by rw [e]), ck_t hok, ck_t (p_ok (by omega) (by decide))]
        refine ⟨_, rfl, p_s1 k, ?_⟩
        rw [if_pos (by rw [(fcB_t hk).mpr fk, beq_t.mpr e]; rfl)]
        have := NumI_add h2 hnm hlen (s := k) (by omega)
        rw [p_ix (by omega)] at this
        exact this
      · rw [if_neg (by rw [p_eq (by omega) (by omega)]; exact e)]
        refine ⟨_, rfl, p_s1 k, ?_⟩
        rw [if_neg (by rw [nbeq_f e, Bool.and_false]; exact Bool.false_ne_true), List.append_nil]
        exact h2
    · rw [if0_f (fcB_f hk fk)]
      refine ⟨_, rfl, p_s1 k, ?_⟩
      rw [if_neg (by rw [fcB_f hk fk]; exact Bool.false_ne_true), List.append_nil]
      exact h2
  · obtain ⟨vk, vs, vn, vse⟩ := v
    obtain ⟨h1, h2⟩ := hI
    dsimp only at h1 h2
    subst h1
    unfold fX3_numberFaces_L20
    dsimp only
    rw [hc.2.1, if_pos (nI_lt (by omega) (by omega)), ck_t (p_ok hr9 (by decide)), p_ix (by omega), h2.1, h0.1, List.length_append, p_sub (by omega), Nat.add_sub_cancel_left, p_s1]
    refine ⟨_, rfl, _, vn, vse, rfl, ?_⟩
    rw [flT_s]
    exact ⟨by rw [List.length_append], h2.2⟩
theorem eX3_numberFaces {x : OX3} (hv : IncV n m F) (hc : ClR n m F x) (hr : RR n m F (q3_ranks x) (rk n m F)) (h0 : ∀ s, s < 2 ^ n → q3_numbers x s = -1) : ∃ size nu se rs, fX3_numberFaces x = some (s3_size (s3_rankSizes (s3_sets (s3_numbers x nu) se) rs) size) ∧ NumI n (fl n m F) size nu se ∧ ∀ r, r < 9 → rs r = nI (flR n m F r (2 ^ n)).length := by
  have key : ∃ q, lp (fX3_numberFaces_L7 x) lpN (0, 0, (q3_numbers x), (q3_sets x), (q3_rankSizes x)) = some q ∧ ∃ size nu se rs, q = s3_size (s3_rankSizes (s3_sets (s3_numbers x nu) se) rs) size ∧ NumI n (fl n m F) size nu se ∧ ∀ r, r < 9 → rs r = nI (flR n m F r (2 ^ n)).length := by
    refine lp_inv (fun r v => v.1 = nI r ∧ NumI n (flT n m F r) v.2.1 v.2.2.1 v.2.2.2.1 ∧ ∀ r', r' < r → v.2.2.2.2 r' = nI (flR n m F r' (2 ^ n)).length) _ 9 ⟨rfl, ⟨rfl, fun k hk => absurd hk (Nat.not_lt_zero k), fun k hk => absurd hk (Nat.not_lt_zero k), fun s hs _ => h0 s hs⟩, fun r' h => absurd h (Nat.not_lt_zero r')⟩ (fun r v hr9 hI => Or.inl ?_) (fun v hI => ?_) (lpN_gt (by omega))
    · obtain ⟨vr, vs, vn, vse, vrs⟩ := v
      obtain ⟨h1, h2, h3⟩ := hI
      dsimp only at h1 h2 h3
      subst h1
      unfold fX3_numberFaces_L7
      rw [if_neg (show ¬ (8 : Int32) < nI r from nI_nlt (a := 8) (b := r) (by omega) (by omega))]
      obtain ⟨q, g1, size', nu', se', rfl, g2⟩ := eX3_numIn hv hc hr hr9 (rs := vrs) h2
      refine ⟨_, g1, rfl, g2, fun r' h => ?_⟩
      show upd vrs r _ r' = _
      by_cases e : r' = r
      · rw [e, upd_at]
      · rw [upd_ne _ _ e]; exact h3 r' (by omega)
    · obtain ⟨vr, vs, vn, vse, vrs⟩ := v
      obtain ⟨h1, h2, h3⟩ := hI
      dsimp only at h1 h2 h3
      subst h1
      unfold fX3_numberFaces_L7
      rw [if_pos (show (8 : Int32) < nI 9 from nI_lt (a := 8) (b := 9) (by omega) (by omega))]
      exact ⟨_, rfl, vs, vn, vse, vrs, rfl, h2, h3⟩
  obtain ⟨q, h1, size, nu, se, rs, rfl, h2, h3⟩ := key
  exact ⟨size, nu, se, rs, h1, h2, h3⟩
/-- the class's lattice is that of these incidences -/
def LatR (n m : Nat) (F : Nat → Nat) (x : OX3) : Prop := ClR n m F x ∧ RR n m F (q3_ranks x) (rk n m F) ∧ NumI n (fl n m F) (q3_size x) (q3_numbers x) (q3_sets x) ∧ ∀ r, r < 9 → q3_rankSizes x r = nI (flR n m F r (2 ^ n)).length
theorem eX3_build {y : OX2} (x : OX3) (hv : IncV n m F) (hy : IncR n m F y) : ∃ z, fX3_build x y = some z ∧ LatR n m F z := by
  have hn := hv.2.1
  have h8 := p2_256 hn
  have hp := p2_pos n
  unfold fX3_build
  rw [bd_s (eX2_allPoints hn hy.1)]
  refine lp_inv (fun k v => v.1 = nI k ∧ ∀ s, s < k → v.2.1 s = nI (cl n m F s) ∧ v.2.2.1 s = 0 ∧ v.2.2.2 s = -1) (LatR n m F) (2 ^ n) ⟨rfl, fun s h => absurd h (Nat.not_lt_zero s)⟩ (fun k v hk hI => Or.inl ?_) (fun v hI => ?_) (lpN_gt (by omega))
  · obtain ⟨vk, vc, vr, vn⟩ := v
    obtain ⟨h1, h2⟩ := hI
    dsimp only at h1 h2
    subst h1
    have hok : okI (nI k) 256 = true := p_ok (by omega) (by decide)
    unfold fX3_build_L18
    dsimp only
    rw [if_neg (nI_nlt (by omega) (by omega)), bd_s (eX2_closureOf hy hv (by omega)), ck_t hok, ck_t hok, ck_t hok, p_ix (by omega)]
    refine ⟨_, rfl, p_s1 k, fun s hs => ?_⟩
    show upd vc k _ s = _ ∧ upd vr k 0 s = 0 ∧ upd vn k (-1) s = -1
    by_cases e : s = k
    · rw [e, upd_at, upd_at, upd_at]; exact ⟨rfl, rfl, rfl⟩
    · rw [upd_ne _ _ e, upd_ne _ _ e, upd_ne _ _ e]; exact h2 s (by omega)
  · obtain ⟨vk, vc, vr, vn⟩ := v
    obtain ⟨h1, h2⟩ := hI
    dsimp only at h1 h2
    subst h1
    unfold fX3_build_L18
    rw [if_pos (nI_lt (by omega) (by omega))]
    obtain ⟨R, g1, g2⟩ := eX3_rankFaces (x := s3_all (s3_points (s3_numbers (s3_ranks (s3_closed x vc) vr) vn) (q2_points y)) (nI (2 ^ n - 1))) hv ⟨hy.1, rfl, fun s hs => (h2 s hs).1⟩ (fun s hs => (h2 s hs).2.1)
    rw [bd_s g1]
    obtain ⟨size, nu, se, rs, g3, g4, g5⟩ := eX3_numberFaces (x := s3_all (s3_points (s3_numbers (s3_ranks (s3_closed x vc) R) vn) (q2_points y)) (nI (2 ^ n - 1))) hv ⟨hy.1, rfl, fun s hs => (h2 s hs).1⟩ g2 (fun s hs => (h2 s hs).2.2)
    rw [show (s3_all (s3_points (s3_numbers (s3_ranks (s3_closed x vc) (q3_ranks (s3_ranks (s3_all (s3_points (s3_numbers (s3_ranks (s3_closed x vc) vr) vn) (q2_points y)) (nI (2 ^ n - 1))) R))) vn) (q2_points y)) (nI (2 ^ n - 1))) = s3_all (s3_points (s3_numbers (s3_ranks (s3_closed x vc) R) vn) (q2_points y)) (nI (2 ^ n - 1)) from rfl, bd_s g3]
    exact ⟨_, rfl, ⟨hy.1, rfl, fun s hs => (h2 s hs).1⟩, g2, g4, g5⟩
end PN

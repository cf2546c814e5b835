/-! the reference's tables, as they are laid -/
section P8
variable {n m : Nat} {F : Nat → Nat}
theorem NumJ_add {L : List Nat} {size : Int32} {nu se : Nat → Int32} (h : NumJ n m F L size nu se) {s : Nat} (hs : s ∉ L) (hL : L.length < 256) (h8 : s < 2147483648) (fs : Fc n m F s) : NumJ n m F (L ++ [s]) (size + 1) (upd nu (ix (nI s)) size) (upd se (ix size) (nI s)) := by
  obtain ⟨h1, h2, h3, h4⟩ := h
  subst h1
  refine ⟨by rw [p_s1, List.length_append]; rfl, fun k hk => ?_, fun k hk => ?_, fun t ht => ?_⟩
  · rw [List.length_append, List.length_singleton] at hk
    rw [p_ix (by omega)]
    by_cases e : k = L.length
    · rw [e, upd_at, getD_e]
    · rw [upd_ne _ _ e, getD_l L s (by omega)]; exact h2 k (by omega)
  · rw [List.length_append, List.length_singleton] at hk
    rw [p_ix h8]
    by_cases e : k = L.length
    · rw [e, getD_e, upd_at]
    · rw [getD_l L s (by omega), upd_ne _ _ (fun z => hs (by have w := getD_mem (L := L) (k := k) (by omega); rw [z] at w; exact w))]; exact h3 k (by omega)
  · rw [p_ix h8]
    by_cases e : t = s
    · rw [e, upd_at, p_nm1 (by omega)]
      exact ⟨False.elim, fun z => z fs⟩
    · rw [upd_ne _ _ e]; exact h4 t ht
theorem eX7_lay107 {o : OX7} (hv : IncV n m F) (hN : NowR n m F (q7_now o)) {c p0 R : Nat → Int32} {k0 k1 : Int32} (hr : RR n m F R (rk n m F)) {r : Nat} (hr9 : r < 9) {size : Int32} {nu se : Nat → Int32} (h0 : NumJ n m F (flT n m F r) size nu se) : ∃ q, lp (fX7_lay_L107 o (k0, c, p0) (k1, R) (nI r, size, se, nu)) lpN (0, size, se, nu) = some q ∧ ∃ size' se' nu', q = .inl (nI (r + 1), size', se', nu') ∧ NumJ n m F (flT n m F (r + 1)) size' nu' se' := by
  have hn := hv.2.1
  have h8 := p2_256 hn
  have hp := p2_pos n
  refine lp_inv (fun k v => v.1 = nI k ∧ NumJ n m F (flT n m F r ++ flR n m F r k) v.2.1 v.2.2.2 v.2.2.1) _ (2 ^ n) ⟨rfl, by rw [show flR n m F r 0 = [] from rfl, List.append_nil]; exact h0⟩ (fun k v hk hI => Or.inl ?_) (fun v hI => ?_) (lpN_gt (by omega))
  · obtain ⟨vk, vs, vse, vn⟩ := v
    obtain ⟨h1, h2⟩ := hI
    dsimp only at h1 h2
    subst h1
    unfold fX7_lay_L107
    dsimp only
    rw [bd_s (eX7_all hn ?hall)]
    case hall => exact hN
    rw [if_neg (nI_nlt (by omega) (by omega)), ck_t (p_ok (by omega) (by decide)), p_ix (by omega), flR_s, ← List.append_assoc]
    by_cases fk : Fc n m F k
    · rw [if_neg (fun z => (h2.2.2.2 k hk).mp z fk), ck_t (p_ok (by omega) (by decide))]
      have b := rk_8 hn fk
      by_cases e : rk n m F k = r
      · have hsz : vs = nI (flT n m F r ++ flR n m F r k).length := h2.1
        have hnm : k ∉ flT n m F r ++ flR n m F r k := fun z => by
          rcases List.mem_append.mp z with z | z
          · have := (mem_flT.mp z).2; omega
          · have := ((mem_flR (Nat.le_of_lt hk)).mp z).1; omega
        have hlen : (flT n m F r ++ flR n m F r k).length < 256 := by
          have hd : (flT n m F r ++ flR n m F r (k + 1)).Nodup := flTR_nd hk
          have h3 := nd_256 hd (n := n) (fun y hy => by
            rcases List.mem_append.mp hy with z | z
            · exact (mem_flT.mp z).1.1
            · exact ((mem_flR hk).mp z).2.1.1)
          rw [flR_s, (fcB_t hk).mpr fk, beq_t.mpr e, ← List.append_assoc, List.length_append] at h3
          simp only [Bool.and_true, if_true, List.length_singleton] at h3
          omega
        have hok : okI vs 256 = true := by rw [hsz]; exact p_ok hlen (by decide)
        rw [if_pos (by rw [hr k fk, e]), ck_t hok, ck_t (p_ok (by omega) (by decide))]
        refine ⟨_, rfl, p_s1 k, ?_⟩
        rw [if_pos (by rw [(fcB_t hk).mpr fk, beq_t.mpr e]; rfl)]
        have := NumJ_add h2 hnm hlen (s := k) (by omega) fk
        rw [p_ix (by omega)] at this
        exact this
      · rw [if_neg (by rw [hr k fk, p_eq (by omega) (by omega)]; exact e)]
        refine ⟨_, rfl, p_s1 k, ?_⟩
        rw [if_neg (by rw [nbeq_f e, Bool.and_false]; exact Bool.false_ne_true), List.append_nil]
        exact h2
    · rw [if_pos ((h2.2.2.2 k hk).mpr fk)]
      refine ⟨_, rfl, p_s1 k, ?_⟩
      rw [if_neg (by rw [fcB_f hk fk]; exact Bool.false_ne_true), List.append_nil]
      exact h2
  · obtain ⟨vk, vs, vse, vn⟩ := v
    obtain ⟨h1, h2⟩ := hI
    dsimp only at h1 h2
    subst h1
    unfold fX7_lay_L107
    dsimp only
    rw [bd_s (eX7_all hn ?hall)]
    case hall => exact hN
    rw [if_pos (nI_lt (by omega) (by omega)), p_s1]
    refine ⟨_, rfl, vs, vse, vn, rfl, ?_⟩
    rw [flT_s]
    exact h2
/-- the reference's tables are laid -/
def LdR (n m : Nat) (F : Nat → Nat) (o : OX7) : Prop := q7_isLaid o = 1 ∧ LaidR n m F (q7_closed o) (q7_faces o) (q7_rankOf o) (q7_placeOf o) (q7_faceMany o)
theorem NumJ_fl (hn : n ≤ 8) {size : Int32} {nu se : Nat → Int32} (h : NumJ n m F (fl n m F) size nu se) : NumI n (fl n m F) size nu se := ⟨h.1, h.2.1, h.2.2.1, fun s hs hm => (h.2.2.2 s hs).mpr fun z => hm ((mem_fl hn).mpr z)⟩
theorem eX7_lay99 {o : OX7} (hv : IncV n m F) (hN : NowR n m F (q7_now o)) {c p0 R : Nat → Int32} {k0 k1 : Int32} (hc : ClM n m F c) (hp0 : ∀ s, s < 2 ^ n → (p0 s = -1 ↔ ¬ Fc n m F s)) (hr : RR n m F R (rk n m F)) (f0 : Nat → Int32) : ∃ q, lp (fX7_lay_L99 o (k0, c, p0) (k1, R)) lpN (0, 0, f0, p0) = some q ∧ LdR n m F q := by
  have hn := hv.2.1
  refine lp_inv (fun r v => v.1 = nI r ∧ NumJ n m F (flT n m F r) v.2.1 v.2.2.2 v.2.2.1) _ 9 ⟨rfl, rfl, fun k hk => absurd hk (Nat.not_lt_zero k), fun k hk => absurd hk (Nat.not_lt_zero k), hp0⟩ (fun r v hr9 hI => Or.inl ?_) (fun v hI => ?_) (lpN_gt (by omega))
  · obtain ⟨vr, vs, vse, vn⟩ := v
    obtain ⟨h1, h2⟩ := hI
    dsimp only at h1 h2
    subst h1
    unfold fX7_lay_L99
    rw [if_neg (show ¬ (8 : Int32) < nI r from nI_nlt (a := 8) (b := r) (by omega) (by omega))]
    obtain ⟨q, g1, size', se', nu', rfl, g2⟩ := eX7_lay107 (c := c) (p0 := p0) (k0 := k0) (k1 := k1) hv hN hr hr9 h2
    exact ⟨_, g1, rfl, g2⟩
  · obtain ⟨vr, vs, vse, vn⟩ := v
    obtain ⟨h1, h2⟩ := hI
    dsimp only at h1 h2
    subst h1
    unfold fX7_lay_L99
    rw [if_pos (show (8 : Int32) < nI 9 from nI_lt (a := 8) (b := 9) (by omega) (by omega))]
    exact ⟨_, rfl, rfl, hc, hr, NumJ_fl hn h2⟩
theorem eX7_lay63 {o : OX7} (hv : IncV n m F) (hN : NowR n m F (q7_now o)) {c p0 : Nat → Int32} {k0 : Int32} (hc : ClM n m F c) (hp0 : ∀ s, s < 2 ^ n → (p0 s = -1 ↔ ¬ Fc n m F s)) (r0 : Nat → Int32) : ∃ q, lp (fX7_lay_L63 o (k0, c, p0)) lpN (0, r0) = some q ∧ LdR n m F q := by
  have hn := hv.2.1
  have h8 := p2_256 hn
  have hp := p2_pos n
  refine lp_inv (fun k v => v.1 = nI k ∧ ∀ s, s < k → Fc n m F s → v.2 s = nI (rk n m F s)) _ (2 ^ n) ⟨rfl, fun s hs => absurd hs (Nat.not_lt_zero s)⟩ (fun k v hk hI => Or.inl ?_) (fun v hI => ?_) (lpN_gt (by omega))
  · obtain ⟨vk, vR⟩ := v
    obtain ⟨h1, h2⟩ := hI
    dsimp only at h1 h2
    subst h1
    unfold fX7_lay_L63
    dsimp only
    rw [bd_s (eX7_all hn ?hall)]
    case hall => exact hN
    rw [if_neg (nI_nlt (by omega) (by omega)), ck_t (p_ok (by omega) (by decide)), p_ix (by omega)]
    by_cases fk : Fc n m F k
    · rw [if_neg (fun z => (hp0 k hk).mp z fk), bd_s (eX7_layRank hn ?h1 ?h2 hk ?h3)]
      case h1 => exact hc
      case h2 => exact hp0
      case h3 => exact h2
      refine ⟨_, rfl, p_s1 k, fun s hs fs => ?_⟩
      show upd vR k _ s = _
      by_cases e : s = k
      · rw [e, upd_at]
      · rw [upd_ne _ _ e]; exact h2 s (by omega) fs
    · rw [if_pos ((hp0 k hk).mpr fk)]
      refine ⟨_, rfl, p_s1 k, fun s hs fs => ?_⟩
      by_cases e : s = k
      · exact absurd (e ▸ fs) fk
      · exact h2 s (by omega) fs
  · obtain ⟨vk, vR⟩ := v
    obtain ⟨h1, h2⟩ := hI
    dsimp only at h1 h2
    subst h1
    unfold fX7_lay_L63
    dsimp only
    rw [bd_s (eX7_all hn ?hall)]
    case hall => exact hN
    rw [if_pos (nI_lt (by omega) (by omega))]
    obtain ⟨q, g1, g2⟩ := eX7_lay99 (o := o) (k0 := k0) (k1 := nI (2 ^ n)) hv hN hc hp0 (fun s fs => h2 s fs.1 fs) (q7_faces o)
    exact ⟨q, by rw [g1]; rfl, g2⟩
theorem eX7_lay {o : OX7} (hv : IncV n m F) (hN : NowR n m F (q7_now o)) (hL : q7_isLaid o = 0 ∨ LdR n m F o) : ∃ r, fX7_lay o = some r ∧ LdR n m F r := by
  have hn := hv.2.1
  have h8 := p2_256 hn
  have hp := p2_pos n
  unfold fX7_lay
  rcases hL with hL | hL
  · rw [if_pos hL]
    refine lp_inv (fun k v => v.1 = nI k ∧ ∀ s, s < k → v.2.1 s = nI (cl n m F s) ∧ (v.2.2 s = -1 ↔ ¬ Fc n m F s)) _ (2 ^ n) ⟨rfl, fun s hs => absurd hs (Nat.not_lt_zero s)⟩ (fun k v hk hI => Or.inl ?_) (fun v hI => ?_) (lpN_gt (by omega))
    · obtain ⟨vk, vc, vp⟩ := v
      obtain ⟨h1, h2⟩ := hI
      dsimp only at h1 h2
      subst h1
      unfold fX7_lay_L15
      dsimp only
      rw [bd_s (eX7_all hn ?hall)]
      case hall => exact hN
      have hok : okI (nI k) 256 = true := p_ok (by omega) (by decide)
      have hcl := cl_lt n m F k
      rw [if_neg (nI_nlt (by omega) (by omega)), bd_s (eX7_closureOf ?hclo hv (by omega)), ck_t hok, ck_t hok, ck_t hok, p_ix (by omega), upd_at]
      case hclo => exact hN
      by_cases fk : cl n m F k = k
      · rw [if_pos (by rw [fk])]
        refine ⟨_, rfl, p_s1 k, fun s hs => ?_⟩
        show upd vc k _ s = _ ∧ (upd vp k 0 s = -1 ↔ _)
        by_cases e : s = k
        · rw [e, upd_at, upd_at]
          exact ⟨rfl, fun z => absurd z (by decide), fun z => absurd ⟨hk, fk⟩ z⟩
        · rw [upd_ne _ _ e, upd_ne _ _ e]; exact h2 s (by omega)
      · rw [if_neg (by rw [p_eq (by omega) (by omega)]; exact fk), ck_t hok]
        refine ⟨_, rfl, p_s1 k, fun s hs => ?_⟩
        show upd vc k _ s = _ ∧ (upd vp k (-1) s = -1 ↔ _)
        by_cases e : s = k
        · rw [e, upd_at, upd_at]
          exact ⟨rfl, fun _ z => fk z.2, fun _ => rfl⟩
        · rw [upd_ne _ _ e, upd_ne _ _ e]; exact h2 s (by omega)
    · obtain ⟨vk, vc, vp⟩ := v
      obtain ⟨h1, h2⟩ := hI
      dsimp only at h1 h2
      subst h1
      unfold fX7_lay_L15
      dsimp only
      rw [bd_s (eX7_all hn ?hall)]
      case hall => exact hN
      rw [if_pos (nI_lt (by omega) (by omega))]
      obtain ⟨q, g1, g2⟩ := eX7_lay63 (o := o) (k0 := nI (2 ^ n)) hv hN (fun s hs => (h2 s hs).1) (fun s hs => (h2 s hs).2) (q7_rankOf o)
      exact ⟨q, by rw [g1]; rfl, g2⟩
  · rw [if_neg (by rw [hL.1]; decide)]
    exact ⟨o, rfl, hL⟩
end P8

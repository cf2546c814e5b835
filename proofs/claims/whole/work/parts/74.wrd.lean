/-! numbers and words at hand, on both sides -/
section WD
variable {L : Nat} {B : Nat → Nat}
def TkP (L : Nat) (B : Nat → Nat) (k s e : Nat) : Prop := ∃ p, Tok L B p k s e
theorem TkP.le {k s e : Nat} (h : TkP L B k s e) : s ≤ e ∧ e ≤ L ∧ k ≤ 4 := by
  obtain ⟨p, h1, h2, h3, h4⟩ := h
  rcases h4 with ⟨g1, g2, g3⟩ | ⟨g1, g2, g3, g4, g5, _⟩
  · omega
  · have := kd_14 (B s)
    omega
theorem TkP.run {k s e : Nat} (h : TkP L B k s e) (hk : k = 1 ∨ k = 2) : s < e ∧ ∀ i, s ≤ i → i < e → kd (B i) = k := by
  obtain ⟨p, h1, h2, h3, h4⟩ := h
  rcases h4 with ⟨g1, g2, g3⟩ | ⟨g1, g2, g3, g4, g5, g6, _⟩
  · omega
  · exact ⟨g4, (g6 hk).1⟩
def CS (L : Nat) (B : Nat → Nat) (t : OX5) (k s e : Nat) : Prop := TB L B t ∧ T5 t k s e
def RS (L : Nat) (B : Nat → Nat) (r : OX7) (k s e : Nat) : Prop := RB L B r ∧ T7 B r k s e ∧ q7_wrong r = -1
/-- the number at hand is good for a use -/
def NumOk (k s e : Nat) : Prop := k = 2 ∧ e - s ≤ 4
theorem numOk_lt {k s e : Nat} (h : TkP L B k s e) (g : NumOk k s e) : dv B s (e - s) < 10000 := by
  obtain ⟨g1, g2⟩ := g
  have hr := (h.run (Or.inr g1)).2
  have h1 := dv_lt (B := B) (s := s) (e - s) (fun i i1 i2 => by
    rw [← g1]
    exact hr i i1 (by omega))
  have h2 : 10 ^ (e - s) ≤ 10 ^ 4 := Nat.pow_le_pow_right (by decide) g2
  have h3 : (10 : Nat) ^ 4 = 10000 := by decide
  omega
theorem eX5_numberHere {t : OX5} (hL : L ≤ 300) (hB : ∀ j, j < L → B j < 256) {k s e : Nat} (hc : CS L B t k s e) (h : TkP L B k s e) : (NumOk k s e → fX5_numberHere t = some (nI (dv B s (e - s)))) ∧ (¬ NumOk k s e → fX5_numberHere t = some (-1)) := by
  obtain ⟨ht, h1, h2, h3⟩ := hc
  obtain ⟨l1, l2, l3⟩ := h.le
  have hsub : q5_end t - q5_start t = nI (e - s) := by rw [h2, h3, p_sub l1]
  unfold fX5_numberHere
  rw [hsub]
  constructor
  · rintro ⟨g1, g2⟩
    have hrun := (h.run (Or.inr g1)).2
    rw [if_pos (show q5_kind t = 2 by rw [h1, g1]; rfl), if_pos (show nI (e - s) ≤ 4 from nI_le (b := 4) g2 (by omega)), h2]
    refine lp_go (fun j => (nI (dv B s j), nI (s + j))) (e - s) (fun j hj => ?_) ?_ (lpN_gt (by omega))
    · have hd := kd_2 (by rw [← g1]; exact hrun (s + j) (by omega) (by omega))
      unfold fX5_numberHere_L30
      dsimp only
      rw [h3, if_neg (nI_ge (by omega) (by omega)), ck_t (p_ok (by omega) (by decide)), p_ix (by omega), ht.2 _ (by omega), show (10 : Int32) = nI 10 from rfl, p_mul, nI_add, show (48 : Int32) = nI 48 from rfl, p_sub (by omega), p_s1]
      have e1 : 10 * dv B s j + B (s + j) - 48 = dv B s (j + 1) := by
        show _ = 10 * dv B s j + (B (s + j) - 48)
        omega
      rw [e1]
      rfl
    · unfold fX5_numberHere_L30
      dsimp only
      rw [h3, show s + (e - s) = e by omega, if_pos (nI_le (Nat.le_refl e) (by omega))]
      rfl
  · intro g
    by_cases g1 : k = 2
    · rw [if_pos (show q5_kind t = 2 by rw [h1, g1]; rfl), if_neg (show ¬ nI (e - s) ≤ 4 from nI_ge (a := 4) (by
        have : ¬ e - s ≤ 4 := fun z => g ⟨g1, z⟩
        omega) (by omega))]
    · rw [if_neg (show ¬ q5_kind t = 2 by rw [h1]; exact fun z => g1 ((nI_eq (b := 2) (by omega) (by decide)).mp z))]
/-- the word at hand is that of a number in the list -/
def WM (B : Nat → Nat) (w s e : Nat) : Prop := e - s = sLen.getD w 0 ∧ ∀ j, j < sLen.getD w 0 → nI (B (s + j)) = sCh w j
theorem sLen_7 : ∀ w, w < 6 → sLen.getD w 0 ≤ 7 := by decide
theorem okW_t {w : Nat} (h : w < 6) : okW w = true := decide_eq_true h
theorem eX5_isHere {t : OX5} (hL : L ≤ 300) {k s e : Nat} (hc : CS L B t k s e) (h : TkP L B k s e) {w : Nat} (hw : w < 6) : ∃ v, fX5_isHere t w = some v ∧ YN v (k = 1 ∧ WM B w s e) := by
  obtain ⟨ht, h1, h2, h3⟩ := hc
  obtain ⟨l1, l2, l3⟩ := h.le
  have h7 := sLen_7 w hw
  have hsub : q5_end t - q5_start t = nI (e - s) := by rw [h2, h3, p_sub l1]
  unfold fX5_isHere
  rw [ck_t (okW_t hw), hsub]
  by_cases g1 : k = 1
  · rw [if_pos (show q5_kind t = 1 by rw [h1, g1]; rfl), ifq (by omega) (by omega)]
    by_cases g2 : e - s = sLen.getD w 0
    · rw [if_pos g2]
      refine lp_inv (fun j v => v = nI j ∧ ∀ i, i < j → nI (B (s + i)) = sCh w i) _ (sLen.getD w 0) ⟨rfl, fun i hi => absurd hi (Nat.not_lt_zero i)⟩ (fun j v hj hI => ?_) (fun v hI => ?_) (lpN_gt (by omega))
      · obtain ⟨rfl, hI⟩ := hI
        unfold fX5_isHere_L28
        rw [if_neg (nI_ge hj (by omega)), h2, nI_add, ck_t (p_ok (by omega) (by decide)), ck_t (p_ok hj (by omega)), p_ix (by omega), p_ix (by omega), ht.2 _ (by omega), p_s1]
        by_cases g3 : nI (B (s + j)) = sCh w j
        · rw [if_pos g3]
          refine Or.inl ⟨_, rfl, rfl, fun i hi => ?_⟩
          by_cases z : i = j
          · rw [z]; exact g3
          · exact hI i (by omega)
        · rw [if_neg g3]
          exact Or.inr ⟨_, rfl, Or.inr ⟨rfl, fun z => g3 (z.2.2 j hj)⟩⟩
      · obtain ⟨rfl, hI⟩ := hI
        unfold fX5_isHere_L28
        rw [if_pos (nI_le (Nat.le_refl _) (by omega))]
        exact ⟨_, rfl, Or.inl ⟨rfl, g1, g2, hI⟩⟩
    · rw [if_neg g2]
      exact ⟨_, rfl, Or.inr ⟨rfl, fun z => g2 z.2.1⟩⟩
  · rw [if_neg (show ¬ q5_kind t = 1 by rw [h1]; exact fun z => g1 ((nI_eq (b := 1) (by omega) (by decide)).mp z))]
    exact ⟨_, rfl, Or.inr ⟨rfl, fun z => g1 z.1⟩⟩
theorem rkd_i {k : Nat} (hk : k ≤ 4) : rkd k ≤ 3 ∧ (rkd k = 1 ↔ k = 1) ∧ (rkd k = 2 ↔ k = 2) ∧ (rkd k = 0 ↔ k = 0) := by
  unfold rkd
  split <;> omega
theorem good_1 {r : OX7} (h : q7_wrong r = -1) : fX7_isGood r = some 1 := by
  unfold fX7_isGood
  rw [if_neg (by rw [h]; exact m1_n0)]
theorem good_0 {r : OX7} {x : Nat} (hx : x < 2147483648) (h : q7_wrong r = nI x) : fX7_isGood r = some 0 := by
  unfold fX7_isGood
  rw [if_pos (by rw [h]; exact nI_pos' hx)]
theorem eX7_isWord {r : OX7} (hL : L ≤ 300) {k s e : Nat} (hc : RS L B r k s e) (h : TkP L B k s e) {w : Nat} (hw : w < 6) : ∃ v, fX7_isWord r w = some v ∧ YN v (k = 1 ∧ WM B w s e) := by
  obtain ⟨ht, ⟨h1, h2, h3, h4⟩, hwr⟩ := hc
  obtain ⟨l1, l2, l3⟩ := h.le
  obtain ⟨r1, r2, _, _⟩ := rkd_i l3
  have h7 := sLen_7 w hw
  have hsub : q7_at r - q7_from r = nI (e - s) := by rw [h2, h3, p_sub l1]
  have no : ¬ (k = 1 ∧ WM B w s e) → ∃ v, fX7_isWord_J35 r w = some v ∧ YN v (k = 1 ∧ WM B w s e) := fun hx => by
    unfold fX7_isWord_J35 fX7_isWord_J36
    refine ⟨0, ?_, Or.inr ⟨rfl, hx⟩⟩
    refine lp_go (fun _ => (0, 0)) 0 (fun j hj => absurd hj (Nat.not_lt_zero j)) ?_ (lpN_gt (by omega))
    unfold fX7_isWord_L39
    rw [if_pos rfl]
    rfl
  unfold fX7_isWord
  rw [ck_t (okW_t hw), bd_s (good_1 hwr), if_neg n10, hsub]
  by_cases g1 : k = 1
  · rw [if_pos (show q7_kind r = 1 by rw [h1, r2.mpr g1]; rfl), ifq (by omega) (by omega)]
    by_cases g2 : e - s = sLen.getD w 0
    · rw [if_pos g2]
      unfold fX7_isWord_J36
      refine lp_inv (fun j v => v.2 = nI j ∧ ((v.1 = 1 ∧ ∀ i, i < j → nI (B (s + i)) = sCh w i) ∨ (v.1 = 0 ∧ ¬ ∀ i, i < sLen.getD w 0 → nI (B (s + i)) = sCh w i))) _ (sLen.getD w 0) ⟨rfl, Or.inl ⟨rfl, fun i hi => absurd hi (Nat.not_lt_zero i)⟩⟩ (fun j v hj hI => ?_) (fun v hI => ?_) (lpN_gt (by omega))
      · obtain ⟨v1, v2⟩ := v
        obtain ⟨q1, q2⟩ := hI
        dsimp only at q1 q2
        subst q1
        unfold fX7_isWord_L39
        dsimp only
        rcases q2 with ⟨rfl, q2⟩ | ⟨rfl, q2⟩
        · rw [if_neg n10, if_neg (nI_ge hj (by omega)), h2, nI_add, ck_t (p_ok (by omega) (by decide)), ck_t (p_ok hj (by omega)), p_ix (by omega), p_ix (by omega), ht.2 _ (by omega), p_s1]
          by_cases g3 : nI (B (s + j)) = sCh w j
          · rw [if_pos g3]
            refine Or.inl ⟨_, rfl, rfl, Or.inl ⟨rfl, fun i hi => ?_⟩⟩
            by_cases z : i = j
            · rw [z]; exact g3
            · exact q2 i (by omega)
          · rw [if_neg g3]
            exact Or.inl ⟨_, rfl, rfl, Or.inr ⟨rfl, fun z => g3 (z j hj)⟩⟩
        · rw [if_pos rfl]
          exact Or.inr ⟨_, rfl, Or.inr ⟨rfl, fun z => q2 z.2.2⟩⟩
      · obtain ⟨v1, v2⟩ := v
        obtain ⟨q1, q2⟩ := hI
        dsimp only at q1 q2
        subst q1
        unfold fX7_isWord_L39
        dsimp only
        rcases q2 with ⟨rfl, q2⟩ | ⟨rfl, q2⟩
        · rw [if_neg n10, if_pos (nI_le (Nat.le_refl _) (by omega))]
          exact ⟨_, rfl, Or.inl ⟨rfl, g1, g2, q2⟩⟩
        · rw [if_pos rfl]
          exact ⟨_, rfl, Or.inr ⟨rfl, fun z => q2 z.2.2⟩⟩
    · rw [if_neg g2]
      exact no fun z => g2 z.2.1
  · rw [if_neg (show ¬ q7_kind r = 1 by rw [h1]; exact fun z => g1 (r2.mp ((nI_eq (b := 1) (by omega) (by decide)).mp z)))]
    exact no fun z => g1 z.1
/-- a number taken: it is good and in its range, and the next token is at hand; or the place is told -/
theorem eX7_takeNumber {r : OX7} (hL : L ≤ 300) (hB : ∀ j, j < L → B j < 256) {k s e : Nat} (hc : RS L B r k s e) (h : TkP L B k s e) {lo hi : Nat} (hlo : lo < 2147483648) (hhi : hi < 2147483648) : ((NumOk k s e ∧ lo ≤ dv B s (e - s) ∧ dv B s (e - s) ≤ hi) → ∀ k' s' e', Tok L B e k' s' e' → ∃ z, fX7_takeNumber r (nI lo) (nI hi) = some (nI (dv B s (e - s)), z) ∧ T7 B z k' s' e' ∧ q7_wrong z = -1) ∧ (¬ (NumOk k s e ∧ lo ≤ dv B s (e - s) ∧ dv B s (e - s) ≤ hi) → ∃ z, fX7_takeNumber r (nI lo) (nI hi) = some (nI lo, z) ∧ q7_wrong z = nI s) := by
  obtain ⟨ht, ⟨h1, h2, h3, h4⟩, hwr⟩ := hc
  obtain ⟨l1, l2, l3⟩ := h.le
  obtain ⟨r1, _, r2, _⟩ := rkd_i l3
  have hsub : q7_at r - q7_from r = nI (e - s) := by rw [h2, h3, p_sub l1]
  have no : ∃ z, fX7_takeNumber_J40 r (nI lo) = some (nI lo, z) ∧ q7_wrong z = nI s := by
    unfold fX7_takeNumber_J40 fX7_fail
    rw [if_neg (by rw [hwr]; exact m1_n0), h2]
    exact ⟨_, rfl, rfl⟩
  unfold fX7_takeNumber
  rw [bd_s (good_1 hwr), if_neg n10, hsub]
  constructor
  · rintro ⟨⟨g1, g2⟩, g3, g4⟩ k' s' e' hT
    have hlt := numOk_lt h ⟨g1, g2⟩
    obtain ⟨z, z1, z2⟩ := eX7_step hL hB ht h3 hT
    rw [if_pos (show q7_kind r = 2 by rw [h1, r2.mpr g1]; rfl), if_neg (show ¬ (4 : Int32) < nI (e - s) from nI_nlt (a := 4) g2 (by omega)), h4 g1 g2, bd_s (eX7_inab (by omega) hlo hhi), if0_t (decide_eq_true ⟨g3, g4⟩), bd_s z1]
    exact ⟨_, rfl, z2, hwr⟩
  · intro g
    by_cases g1 : k = 2
    · rw [if_pos (show q7_kind r = 2 by rw [h1, r2.mpr g1]; rfl)]
      by_cases g2 : e - s ≤ 4
      · have hlt := numOk_lt h ⟨g1, g2⟩
        rw [if_neg (show ¬ (4 : Int32) < nI (e - s) from nI_nlt (a := 4) g2 (by omega)), h4 g1 g2, bd_s (eX7_inab (by omega) hlo hhi), if0_f (decide_eq_false (fun z => g ⟨⟨g1, g2⟩, z⟩))]
        exact no
      · rw [if_pos (show (4 : Int32) < nI (e - s) from nI_lt (a := 4) (by omega) (by omega))]
        exact no
    · rw [if_neg (show ¬ q7_kind r = 2 by rw [h1]; exact fun z => g1 (r2.mp ((nI_eq (b := 2) (by omega) (by decide)).mp z)))]
      exact no
end WD

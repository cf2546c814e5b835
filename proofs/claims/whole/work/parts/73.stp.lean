/-! the reference's step; numbers and words at hand -/
section ST
variable {L : Nat} {B : Nat → Nat}
theorem eX7_peek {r : OX7} (hL : L ≤ 300) (hr : RB L B r) {k : Nat} (hk : k ≤ L) : fX7_peek r (nI k) = some (if k < L then nI (B k) else -1) := by
  unfold fX7_peek
  by_cases e : k < L
  · rw [if_neg (by rw [hr.1]; exact nI_ge e (by omega)), ck_t (p_ok (by omega) (by decide)), p_ix (by omega), hr.2 k e, if_pos e]
  · rw [if_pos (by rw [hr.1]; exact nI_le (by omega) (by omega)), if_neg e]
theorem eX7_peek_t {r : OX7} (hL : L ≤ 300) (hr : RB L B r) {k : Nat} (hk : k < L) : fX7_peek r (nI k) = some (nI (B k)) := by
  rw [eX7_peek hL hr (Nat.le_of_lt hk), if_pos hk]
theorem eX7_peek_e {r : OX7} (hL : L ≤ 300) (hr : RB L B r) : fX7_peek r (nI L) = some (-1) := by
  rw [eX7_peek hL hr (Nat.le_refl L), if_neg (Nat.lt_irrefl L)]
theorem kd_c1 {b : Nat} (h : ¬ (97 ≤ b ∧ b ≤ 122)) : ¬ kd b = 1 := fun z => h (kd_1 z)
theorem kd_c2 {b : Nat} (h : ¬ (48 ≤ b ∧ b ≤ 57)) : ¬ kd b = 2 := fun z => h (kd_2 z)
theorem kd_is1 {b : Nat} (h : 97 ≤ b ∧ b ≤ 122) : kd b = 1 := by unfold kd; rw [if_pos h]
theorem kd_is2 {b : Nat} (h : 48 ≤ b ∧ b ≤ 57) : kd b = 2 := by unfold kd; rw [if_neg (by omega : ¬ (97 ≤ b ∧ b ≤ 122)), if_pos h]
theorem eX7_isLetter {b : Nat} (hb : b < 256) : fX7_isLetter (nI b) = some (nI (Nat.beq (kd b) 1).toNat) := by
  unfold fX7_isLetter
  by_cases e1 : b < 97
  · rw [if_pos (show nI b < 97 from nI_lt (b := 97) e1 (by omega)), nbeq_f (kd_c1 (by omega))]; rfl
  · rw [if_neg (show ¬ nI b < 97 from nI_nlt (b := 97) (by omega) (by omega))]
    by_cases e2 : 122 < b
    · rw [if_pos (show (122 : Int32) < nI b from nI_lt (a := 122) e2 (by omega)), nbeq_f (kd_c1 (by omega))]; rfl
    · rw [if_neg (show ¬ (122 : Int32) < nI b from nI_nlt (a := 122) (by omega) (by omega)), beq_t.mpr (kd_is1 (by omega))]; rfl
theorem eX7_isDigit {b : Nat} (hb : b < 256) : fX7_isDigit (nI b) = some (nI (Nat.beq (kd b) 2).toNat) := by
  unfold fX7_isDigit
  by_cases e1 : b < 48
  · rw [if_pos (show nI b < 48 from nI_lt (b := 48) e1 (by omega)), nbeq_f (kd_c2 (by omega))]; rfl
  · rw [if_neg (show ¬ nI b < 48 from nI_nlt (b := 48) (by omega) (by omega))]
    by_cases e2 : 57 < b
    · rw [if_pos (show (57 : Int32) < nI b from nI_lt (a := 57) e2 (by omega)), nbeq_f (kd_c2 (by omega))]; rfl
    · rw [if_neg (show ¬ (57 : Int32) < nI b from nI_nlt (a := 57) (by omega) (by omega)), beq_t.mpr (kd_is2 (by omega))]; rfl
theorem m1_lt97 : (-1 : Int32) < 97 := by decide
theorem m1_lt48 : (-1 : Int32) < 48 := by decide
theorem isL_m1 : fX7_isLetter (-1) = some 0 := if_pos m1_lt97
theorem isD_m1 : fX7_isDigit (-1) = some 0 := if_pos m1_lt48
theorem n12 : ¬ (1 : Int32) = 2 := by decide
theorem n01 : ¬ (0 : Int32) = 1 := by decide
theorem n02 : ¬ (0 : Int32) = 2 := by decide
theorem n03 : ¬ (0 : Int32) = 3 := by decide
theorem n13 : ¬ (1 : Int32) = 3 := by decide
theorem n23 : ¬ (2 : Int32) = 3 := by decide
theorem n21 : ¬ (2 : Int32) = 1 := by decide
theorem n31 : ¬ (3 : Int32) = 1 := by decide
theorem n32 : ¬ (3 : Int32) = 2 := by decide
theorem m1_32 : ¬ (-1 : Int32) = 32 := by decide
theorem m1_n0 : ¬ (0 : Int32) ≤ -1 := by decide
theorem st_0 (r : OX7) (v : Int32) : fX7_step_J75 r v 0 = some (s7_number (s7_kind (s7_from (s7_at r v) v) 0) 0) := by
  unfold fX7_step_J75
  rw [if_neg n03]
  refine lp_go (fun _ => v) 0 (fun j hj => absurd hj (Nat.not_lt_zero j)) ?_ (lpN_gt (by omega))
  unfold fX7_step_L101
  rw [if_neg n01]
  have e : lp (fX7_step_L136 r v 0) lpN (v, 0) = some (s7_number (s7_kind (s7_from (s7_at r v) v) 0) 0) := by
    refine lp_go (fun _ => (v, 0)) 0 (fun j hj => absurd hj (Nat.not_lt_zero j)) ?_ (lpN_gt (by omega))
    unfold fX7_step_L136
    rw [if_neg n02]
    rfl
  rw [e]
  rfl
theorem st_3 (r : OX7) (v : Int32) : fX7_step_J75 r v 3 = some (s7_number (s7_kind (s7_from (s7_at r (v + 1)) v) 3) 0) := by
  unfold fX7_step_J75
  rw [if_pos rfl]
  refine lp_go (fun _ => v + 1) 0 (fun j hj => absurd hj (Nat.not_lt_zero j)) ?_ (lpN_gt (by omega))
  unfold fX7_step_L101_2
  rw [if_neg n31]
  have e : lp (fX7_step_L136_3 r v 3) lpN (v + 1, 0) = some (s7_number (s7_kind (s7_from (s7_at r (v + 1)) v) 3) 0) := by
    refine lp_go (fun _ => (v + 1, 0)) 0 (fun j hj => absurd hj (Nat.not_lt_zero j)) ?_ (lpN_gt (by omega))
    unfold fX7_step_L136_3
    rw [if_neg n32]
    rfl
  rw [e]
  rfl
theorem st_1 {r : OX7} (hL : L ≤ 300) (hB : ∀ j, j < L → B j < 256) (hr : RB L B r) {s e : Nat} (h1 : s ≤ e) (h2 : e ≤ L) (h3 : ∀ i, s ≤ i → i < e → kd (B i) = 1) (h4 : e < L → kd (B e) ≠ 1) : fX7_step_J75 r (nI s) 1 = some (s7_number (s7_kind (s7_from (s7_at r (nI e)) (nI s)) 1) 0) := by
  unfold fX7_step_J75
  rw [if_neg n13]
  have e2 : lp (fX7_step_L136_2 r (nI s) 1) lpN (nI e, 0) = some (s7_number (s7_kind (s7_from (s7_at r (nI e)) (nI s)) 1) 0) := by
    refine lp_go (fun _ => (nI e, 0)) 0 (fun j hj => absurd hj (Nat.not_lt_zero j)) ?_ (lpN_gt (by omega))
    unfold fX7_step_L136_2
    rw [if_neg n12]
    rfl
  refine lp_go (fun j => nI (s + j)) (e - s) (fun j hj => ?_) ?_ (lpN_gt (by omega))
  · unfold fX7_step_L101
    rw [if_pos rfl, bd_s (eX7_peek_t hL ?hrb (show s + j < L by omega)), bd_s (eX7_isLetter (hB _ (by omega))), if0_t (beq_t.mpr (h3 _ (by omega) (by omega))), p_s1]
    case hrb => exact hr
    rfl
  · rw [show s + (e - s) = e by omega]
    unfold fX7_step_L101
    rw [if_pos rfl, e2]
    by_cases q : e < L
    · rw [bd_s (eX7_peek_t hL ?hrb q), bd_s (eX7_isLetter (hB _ q)), if0_f (nbeq_f (h4 q))]
      case hrb => exact hr
      rfl
    · have he : e = L := by omega
      rw [he, bd_s (eX7_peek_e hL ?hrb), bd_s isL_m1, if_pos rfl]
      case hrb => exact hr
      rfl
theorem st_2 {r : OX7} (hL : L ≤ 300) (hB : ∀ j, j < L → B j < 256) (hr : RB L B r) {s e : Nat} (h1 : s ≤ e) (h2 : e ≤ L) (h3 : ∀ i, s ≤ i → i < e → kd (B i) = 2) (h4 : e < L → kd (B e) ≠ 2) : ∃ x, fX7_step_J75 r (nI s) 2 = some (s7_number (s7_kind (s7_from (s7_at r (nI e)) (nI s)) 2) x) ∧ (e - s ≤ 4 → x = nI (dv B s (e - s))) := by
  have key : ∃ z, lp (fX7_step_L136 r (nI s) 2) lpN (nI s, 0) = some z ∧ ∃ x, z = s7_number (s7_kind (s7_from (s7_at r (nI e)) (nI s)) 2) x ∧ (e - s ≤ 4 → x = nI (dv B s (e - s))) := by
    refine lp_inv (fun j v => v.1 = nI (s + j) ∧ (j ≤ 4 → v.2 = nI (dv B s j))) _ (e - s) ⟨rfl, fun _ => rfl⟩ (fun j v hj hI => Or.inl ?_) (fun v hI => ?_) (lpN_gt (by omega))
    · obtain ⟨v1, v2⟩ := v
      obtain ⟨g1, g2⟩ := hI
      dsimp only at g1 g2
      subst g1
      have hd := h3 (s + j) (by omega) (by omega)
      have hd2 := kd_2 hd
      unfold fX7_step_L136
      dsimp only
      rw [if_pos rfl, bd_s (eX7_peek_t hL ?hrb (show s + j < L by omega)), bd_s (eX7_isDigit (hB _ (by omega))), if0_t (beq_t.mpr hd), bd_s (eX7_peek_t hL ?hrb2 (show s + j < L by omega)), p_s1]
      case hrb => exact hr
      case hrb2 => exact hr
      refine ⟨_, rfl, rfl, fun hj4 => ?_⟩
      have hdv := dv_lt (B := B) (s := s) j (fun i i1 i2 => h3 i i1 (by omega))
      have hp : 10 ^ j ≤ 10 ^ 3 := Nat.pow_le_pow_right (by decide) (by omega)
      have e1 : (10 : Int32) * v2 + nI (B (s + j)) - 48 = nI (dv B s (j + 1)) := by
        rw [g2 (by omega), show (10 : Int32) = nI 10 from rfl, p_mul, nI_add, show (48 : Int32) = nI 48 from rfl, p_sub (by omega)]
        congr 1
        show _ = 10 * dv B s j + (B (s + j) - 48)
        omega
      have hlt : dv B s (j + 1) < 100000 := by
        show 10 * dv B s j + (B (s + j) - 48) < 100000
        have : (10 : Nat) ^ 3 = 1000 := by decide
        omega
      show jmin 100000 _ = _
      rw [e1]
      unfold jmin
      rw [if_pos (show nI (dv B s (j + 1)) < 100000 from nI_lt (b := 100000) hlt (by omega))]
    · obtain ⟨v1, v2⟩ := v
      obtain ⟨g1, g2⟩ := hI
      dsimp only at g1 g2
      subst g1
      rw [show s + (e - s) = e by omega]
      unfold fX7_step_L136
      dsimp only
      rw [if_pos rfl]
      by_cases q : e < L
      · rw [bd_s (eX7_peek_t hL ?hrb q), bd_s (eX7_isDigit (hB _ q)), if0_f (nbeq_f (h4 q))]
        case hrb => exact hr
        exact ⟨_, rfl, v2, rfl, g2⟩
      · have he : e = L := by omega
        have e3 : fX7_peek (s7_number (s7_kind (s7_from (s7_at r (nI e)) (nI s)) 2) v2) (nI e) = some (-1) := by rw [he]; exact eX7_peek_e hL hr
        rw [bd_s e3, bd_s isD_m1, if_pos rfl]
        exact ⟨_, rfl, v2, rfl, g2⟩
  obtain ⟨z, k1, x, rfl, k2⟩ := key
  refine ⟨x, ?_, k2⟩
  unfold fX7_step_J75
  rw [if_neg n23]
  refine lp_go (fun _ => nI s) 0 (fun j hj => absurd hj (Nat.not_lt_zero j)) ?_ (lpN_gt (by omega))
  unfold fX7_step_L101
  rw [if_neg n21, k1]
  rfl
theorem eX7_step {r : OX7} (hL : L ≤ 300) (hB : ∀ j, j < L → B j < 256) (hr : RB L B r) {p k s e : Nat} (hp : q7_at r = nI p) (h : Tok L B p k s e) : ∃ z, fX7_step r = some z ∧ T7 B z k s e := by
  obtain ⟨h1, h2, h3, h4⟩ := h
  have key : ∃ z, fX7_step_L0 r (nI s) = some (.inr z) ∧ T7 B z k s e := by
    unfold fX7_step_L0
    rcases h4 with ⟨g1, g2, g3⟩ | ⟨g1, g2, g3, g4, g5, g6, g7⟩
    · rw [g1, bd_s (eX7_peek_e hL ?hrb), if_neg m1_32, bd_s (eX7_peek_e hL ?hrb2), if_neg m1_n0, st_0]
      case hrb => exact hr
      case hrb2 => exact hr
      exact ⟨_, rfl, by rw [g2]; rfl, rfl, by rw [g3, g1], fun z => by omega⟩
    · have hb := hB s g1
      have hk := kd_14 (B s)
      have hn32 : ¬ nI (B s) = 32 := fun z => g2 ((b32 hb).mp z)
      rw [bd_s (eX7_peek_t hL ?hrb g1), if_neg hn32, bd_s (eX7_peek_t hL ?hrb2 g1), if_pos (show (0 : Int32) ≤ nI (B s) from nI_pos' (by omega)), bd_s (eX7_isLetter hb), bd_s (eX7_isDigit hb), ← g3]
      case hrb => exact hr
      case hrb2 => exact hr
      by_cases k1 : k = 1
      · obtain ⟨q1, q2⟩ := g6 (Or.inl k1)
        subst k1
        rw [if0_t (beq_t.mpr rfl), st_1 hL hB hr (Nat.le_of_lt g4) g5 q1 q2]
        exact ⟨_, rfl, rfl, rfl, rfl, fun z => by omega⟩
      · rw [if0_f (nbeq_f k1)]
        by_cases k2 : k = 2
        · obtain ⟨q1, q2⟩ := g6 (Or.inr k2)
          subst k2
          obtain ⟨x, x1, x2⟩ := st_2 hL hB hr (Nat.le_of_lt g4) g5 q1 q2
          rw [if0_t (beq_t.mpr rfl), x1]
          exact ⟨_, rfl, rfl, rfl, rfl, fun _ => x2⟩
        · rw [if0_f (nbeq_f k2), st_3]
          have hk3 : k = 3 ∨ k = 4 := by omega
          refine ⟨_, rfl, ?_, rfl, ?_, fun z => by omega⟩
          · show (3 : Int32) = nI (rkd k)
            unfold rkd
            rcases hk3 with z | z
            · rw [z]; rfl
            · rw [z]; rfl
          · show nI s + 1 = nI e
            rw [p_s1, g7 hk3]
  obtain ⟨z, z1, z2⟩ := key
  refine ⟨z, ?_, z2⟩
  unfold fX7_step
  rw [hp]
  refine lp_go (fun j => nI (p + j)) (s - p) (fun j hj => ?_) ?_ (lpN_gt (by omega))
  · have hj2 : p + j < L := by omega
    unfold fX7_step_L0
    rw [bd_s (eX7_peek_t hL ?hrd hj2), if_pos ((b32 (hB _ hj2)).mpr (h3 _ (by omega) (by omega))), p_s1]
    case hrd => exact hr
    rfl
  · rw [show p + (s - p) = s by omega]
    exact z1
end ST

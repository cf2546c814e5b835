/-! tokens: what both readers find from a place on -/
def kd (b : Nat) : Nat := if 97 ≤ b ∧ b ≤ 122 then 1 else if 48 ≤ b ∧ b ≤ 57 then 2 else if b = 59 then 3 else 4
def Tok (L : Nat) (B : Nat → Nat) (p k s e : Nat) : Prop := p ≤ s ∧ s ≤ L ∧ (∀ i, p ≤ i → i < s → B i = 32) ∧ ((s = L ∧ k = 0 ∧ e = s) ∨ (s < L ∧ B s ≠ 32 ∧ k = kd (B s) ∧ s < e ∧ e ≤ L ∧ ((k = 1 ∨ k = 2) → (∀ i, s ≤ i → i < e → kd (B i) = k) ∧ (e < L → kd (B e) ≠ k)) ∧ ((k = 3 ∨ k = 4) → e = s + 1)))
theorem first_ex (P : Nat → Prop) (L : Nat) : ∀ d p, p + d = L → ∃ s, p ≤ s ∧ s ≤ L ∧ (∀ i, p ≤ i → i < s → P i) ∧ (s < L → ¬ P s) := by
  intro d
  induction d with
  | zero =>
    intro p hp
    exact ⟨p, Nat.le_refl p, by omega, fun i h1 h2 => by omega, fun h => by omega⟩
  | succ d ih =>
    intro p hp
    by_cases h : P p
    · obtain ⟨s, h1, h2, h3, h4⟩ := ih (p + 1) (by omega)
      refine ⟨s, by omega, h2, fun i g1 g2 => ?_, h4⟩
      by_cases e : i = p
      · rw [e]; exact h
      · exact h3 i (by omega) g2
    · exact ⟨p, Nat.le_refl p, by omega, fun i h1 h2 => by omega, fun _ => h⟩
theorem kd_14 (b : Nat) : 1 ≤ kd b ∧ kd b ≤ 4 := by
  unfold kd
  split
  · omega
  · split
    · omega
    · split <;> omega
theorem tok_ex (L : Nat) (B : Nat → Nat) {p : Nat} (hp : p ≤ L) : ∃ k s e, Tok L B p k s e := by
  obtain ⟨s, h1, h2, h3, h4⟩ := first_ex (fun i => B i = 32) L (L - p) p (by omega)
  by_cases e : s = L
  · exact ⟨0, s, s, h1, h2, h3, Or.inl ⟨e, rfl, rfl⟩⟩
  · have hs : s < L := by omega
    by_cases g : kd (B s) = 1 ∨ kd (B s) = 2
    · obtain ⟨u, u1, u2, u3, u4⟩ := first_ex (fun i => kd (B i) = kd (B s)) L (L - (s + 1)) (s + 1) (by omega)
      refine ⟨kd (B s), s, u, h1, h2, h3, Or.inr ⟨hs, h4 hs, rfl, by omega, u2, fun _ => ⟨fun i i1 i2 => ?_, u4⟩, fun z => by omega⟩⟩
      by_cases q : i = s
      · rw [q]
      · exact u3 i (by omega) i2
    · exact ⟨kd (B s), s, s + 1, h1, h2, h3, Or.inr ⟨hs, h4 hs, rfl, by omega, by omega, fun z => absurd z g, fun _ => rfl⟩⟩
/-- the first digits' value -/
def dv (B : Nat → Nat) (s : Nat) : Nat → Nat
  | 0 => 0
  | j + 1 => 10 * dv B s j + (B (s + j) - 48)
theorem kd_2 {b : Nat} (h : kd b = 2) : 48 ≤ b ∧ b ≤ 57 := by
  unfold kd at h
  split at h
  · omega
  · split at h
    · assumption
    · split at h <;> omega
theorem kd_1 {b : Nat} (h : kd b = 1) : 97 ≤ b ∧ b ≤ 122 := by
  unfold kd at h
  split at h
  · assumption
  · split at h
    · omega
    · split at h <;> omega
theorem dv_lt {B : Nat → Nat} {s : Nat} : ∀ j, (∀ i, s ≤ i → i < s + j → kd (B i) = 2) → dv B s j < 10 ^ j := by
  intro j
  induction j with
  | zero => intro _; exact (by decide : 0 < 10 ^ 0)
  | succ j ih =>
    intro h
    have h1 := ih fun i i1 i2 => h i i1 (by omega)
    have h2 := kd_2 (h (s + j) (by omega) (by omega))
    show 10 * dv B s j + (B (s + j) - 48) < 10 ^ (j + 1)
    rw [Nat.pow_succ]
    omega
section TK
variable {L : Nat} {B : Nat → Nat}
def TB (L : Nat) (B : Nat → Nat) (t : OX5) : Prop := q5_length t = nI L ∧ ∀ j, j < L → q5_bytes t j = nI (B j)
def RB (L : Nat) (B : Nat → Nat) (r : OX7) : Prop := q7_length r = nI L ∧ ∀ j, j < L → q7_buffer r j = nI (B j)
def T5 (t : OX5) (k s e : Nat) : Prop := q5_kind t = nI k ∧ q5_start t = nI s ∧ q5_end t = nI e
def rkd (k : Nat) : Nat := if k = 4 then 3 else k
def T7 (B : Nat → Nat) (r : OX7) (k s e : Nat) : Prop := q7_kind r = nI (rkd k) ∧ q7_from r = nI s ∧ q7_at r = nI e ∧ (k = 2 → e - s ≤ 4 → q7_number r = nI (dv B s (e - s)))
theorem eX5_kindOf {b : Nat} (hb : b < 256) : fX5_kindOf (nI b) = some (nI (kd b)) := by
  have hJ28 : ¬ (97 ≤ b ∧ b ≤ 122) → ¬ (48 ≤ b ∧ b ≤ 57) → fX5_kindOf_J28 (nI b) = some (nI (kd b)) := fun h1 h2 => by
    unfold fX5_kindOf_J28 kd
    rw [if_neg h1, if_neg h2]
    by_cases e : b = 59
    · rw [if_pos (show nI b = 59 by rw [e]; rfl), if_pos e]; rfl
    · rw [if_neg (show ¬ nI b = 59 from fun z => e ((nI_eq (by omega) (by decide)).mp z)), if_neg e]; rfl
  have hJ14 : ¬ (97 ≤ b ∧ b ≤ 122) → fX5_kindOf_J14 (nI b) = some (nI (kd b)) := fun h1 => by
    unfold fX5_kindOf_J14
    by_cases e1 : b < 48
    · rw [if_pos (show nI b < 48 from nI_lt (b := 48) e1 (by omega))]
      exact hJ28 h1 (by omega)
    · rw [if_neg (show ¬ nI b < 48 from nI_nlt (b := 48) (by omega) (by omega))]
      by_cases e2 : 57 < b
      · rw [if_pos (show (57 : Int32) < nI b from nI_lt (a := 57) e2 (by omega))]
        exact hJ28 h1 (by omega)
      · rw [if_neg (show ¬ (57 : Int32) < nI b from nI_nlt (a := 57) (by omega) (by omega))]
        unfold kd
        rw [if_neg h1, if_pos (by omega)]; rfl
  unfold fX5_kindOf
  by_cases e1 : b < 97
  · rw [if_pos (show nI b < 97 from nI_lt (b := 97) e1 (by omega))]
    exact hJ14 (by omega)
  · rw [if_neg (show ¬ nI b < 97 from nI_nlt (b := 97) (by omega) (by omega))]
    by_cases e2 : 122 < b
    · rw [if_pos (show (122 : Int32) < nI b from nI_lt (a := 122) e2 (by omega))]
      exact hJ14 (by omega)
    · rw [if_neg (show ¬ (122 : Int32) < nI b from nI_nlt (a := 122) (by omega) (by omega))]
      unfold kd
      rw [if_pos (by omega)]; rfl
theorem b32 {b : Nat} (hb : b < 256) : (nI b = 32) ↔ b = 32 := nI_eq (b := 32) (by omega) (by decide)
theorem kk_eq {a b : Nat} (ha : a < 256) (hb : b < 256) : (nI a = nI b) ↔ a = b := nI_eq (by omega) (by omega)
theorem eX5_advance {t : OX5} (hL : L ≤ 300) (hB : ∀ j, j < L → B j < 256) (ht : TB L B t) {p k s e : Nat} (hp : q5_end t = nI p) (h : Tok L B p k s e) : ∃ z, fX5_advance t = some z ∧ T5 z k s e := by
  obtain ⟨h1, h2, h3, h4⟩ := h
  have key : ∃ z, fX5_advance_J46 t (nI s) = some z ∧ T5 z k s e := by
    unfold fX5_advance_J46
    rcases h4 with ⟨g1, g2, g3⟩ | ⟨g1, g2, g3, g4, g5, g6, g7⟩
    · rw [if_neg (by rw [ht.1]; exact nI_nlt (by omega) (by omega))]
      exact ⟨_, rfl, by rw [g2]; rfl, rfl, by rw [g3]⟩
    · have hb := hB s g1
      have hk := kd_14 (B s)
      rw [if_pos (by rw [ht.1]; exact nI_lt g1 (by omega)), ck_t (p_ok (by omega) (by decide)), p_ix (by omega), ht.2 s g1, bd_s (eX5_kindOf hb), ← g3]
      have loop : ∀ (body : Int32 → Option (Int32 ⊕ OX5)), (∀ j, j < L → body (nI j) = if kd (B j) = k then some (.inl (nI (j + 1))) else some (.inr (s5_end (s5_start (s5_kind t (nI k)) (nI s)) (nI j)))) → body (nI L) = some (.inr (s5_end (s5_start (s5_kind t (nI k)) (nI s)) (nI L))) → (k = 1 ∨ k = 2) → lp body lpN (nI s + 1) = some (s5_end (s5_start (s5_kind t (nI k)) (nI s)) (nI e)) := fun body hb1 hb2 hk12 => by
        obtain ⟨q1, q2⟩ := g6 hk12
        rw [p_s1]
        refine lp_go (fun j => nI (s + 1 + j)) (e - (s + 1)) (fun j hj => ?_) ?_ (lpN_gt (by omega))
        · rw [hb1 _ (by omega), if_pos (q1 _ (by omega) (by omega))]; rfl
        · rw [show s + 1 + (e - (s + 1)) = e by omega]
          by_cases z : e < L
          · rw [hb1 e z, if_neg (q2 z)]
          · rw [show e = L by omega]; exact hb2
      have kk : ∀ j, j < L → kd (B j) < 256 := fun j _ => by have := kd_14 (B j); omega
      have hL1 : (k = 1 ∨ k = 2) → lp (fX5_advance_L113 t (nI s) (nI k)) lpN (nI s + 1) = some (s5_end (s5_start (s5_kind t (nI k)) (nI s)) (nI e)) := loop _ (fun j hj => by
        unfold fX5_advance_L113
        rw [if_neg (by rw [ht.1]; exact nI_ge hj (by omega)), ck_t (p_ok (by omega) (by decide)), p_ix (by omega), ht.2 j hj, bd_s (eX5_kindOf (hB j hj)), ifq (by have := kk j hj; omega) (by omega), p_s1]
        rfl) (by
        unfold fX5_advance_L113
        rw [if_pos (by rw [ht.1]; exact nI_le (Nat.le_refl L) (by omega))]
        rfl)
      have hL2 : (k = 1 ∨ k = 2) → lp (fX5_advance_L113_2 t (nI s) (nI k)) lpN (nI s + 1) = some (s5_end (s5_start (s5_kind t (nI k)) (nI s)) (nI e)) := loop _ (fun j hj => by
        unfold fX5_advance_L113_2
        rw [if_neg (by rw [ht.1]; exact nI_ge hj (by omega)), ck_t (p_ok (by omega) (by decide)), p_ix (by omega), ht.2 j hj, bd_s (eX5_kindOf (hB j hj)), ifq (by have := kk j hj; omega) (by omega), p_s1]
        rfl) (by
        unfold fX5_advance_L113_2
        rw [if_pos (by rw [ht.1]; exact nI_le (Nat.le_refl L) (by omega))]
        rfl)
      by_cases k1 : k = 1
      · rw [if_pos (show nI k = 1 by rw [k1]; rfl), hL1 (Or.inl k1)]
        exact ⟨_, rfl, rfl, rfl, rfl⟩
      · rw [if_neg (show ¬ nI k = 1 from fun z => k1 ((nI_eq (b := 1) (by omega) (by decide)).mp z))]
        by_cases k2 : k = 2
        · rw [if_pos (show nI k = 2 by rw [k2]; rfl), hL2 (Or.inr k2)]
          exact ⟨_, rfl, rfl, rfl, rfl⟩
        · rw [if_neg (show ¬ nI k = 2 from fun z => k2 ((nI_eq (b := 2) (by omega) (by decide)).mp z)), p_s1, g7 (by omega)]
          exact ⟨_, rfl, rfl, rfl, rfl⟩
  obtain ⟨z, z1, z2⟩ := key
  refine ⟨z, ?_, z2⟩
  unfold fX5_advance
  rw [hp]
  refine lp_go (fun j => nI (p + j)) (s - p) (fun j hj => ?_) ?_ (lpN_gt (by omega))
  · have hj2 : p + j < L := by omega
    unfold fX5_advance_L8
    rw [if_neg (by rw [ht.1]; exact nI_ge hj2 (by omega)), ck_t (p_ok (by omega) (by decide)), p_ix (by omega), ht.2 _ hj2, if_pos ((b32 (hB _ hj2)).mpr (h3 _ (by omega) (by omega))), p_s1]
    rfl
  · rw [show p + (s - p) = s by omega]
    unfold fX5_advance_L8
    by_cases q : s < L
    · have hne : B s ≠ 32 := by
        rcases h4 with ⟨g1, _⟩ | ⟨_, g2, _⟩
        · omega
        · exact g2
      rw [if_neg (by rw [ht.1]; exact nI_ge q (by omega)), ck_t (p_ok (by omega) (by decide)), p_ix (by omega), ht.2 s q, if_neg (fun z => hne ((b32 (hB s q)).mp z)), z1]
      rfl
    · rw [if_pos (by rw [ht.1]; exact nI_le (by omega) (by omega)), z1]
      rfl
end TK

/-! the class's lattice: closures, ranks, the faces' numbers, as it is built -/
theorem if0_t {α : Type} {b : Bool} (h : b = true) (x y : α) : (if nI b.toNat = 0 then x else y) = y := by subst h; rfl
theorem if0_f {α : Type} {b : Bool} (h : b = false) (x y : α) : (if nI b.toNat = 0 then x else y) = x := by subst h; rfl
theorem if1_t {α : Type} {b : Bool} (h : b = true) (x y : α) : (if nI b.toNat = 1 then x else y) = x := by subst h; rfl
theorem if1_f {α : Type} {b : Bool} (h : b = false) (x y : α) : (if nI b.toNat = 1 then x else y) = y := by subst h; rfl
theorem nbeq_f {a b : Nat} (h : a ≠ b) : Nat.beq a b = false := by
  cases hb : Nat.beq a b
  · rfl
  · exact absurd (beq_t.mp hb) h
section PL
variable {n m : Nat} {F : Nat → Nat}
theorem fcB_f {s : Nat} (hs : s < 2 ^ n) (h : ¬ Fc n m F s) : fcB n m F s = false := by
  cases hb : fcB n m F s
  · rfl
  · exact absurd ((fcB_t hs).mp hb) h
def ClR (n m : Nat) (F : Nat → Nat) (x : OX3) : Prop := q3_points x = nI n ∧ q3_all x = nI (2 ^ n - 1) ∧ ∀ s, s < 2 ^ n → q3_closed x s = nI (cl n m F s)
theorem eX3_isFace {x : OX3} (hn : n ≤ 8) (h : ∀ s, s < 2 ^ n → q3_closed x s = nI (cl n m F s)) {s : Nat} (hs : s < 2 ^ n) : fX3_isFace x (nI s) = some (nI (fcB n m F s).toNat) := by
  have h8 := p2_256 hn
  have hcl := cl_lt n m F s
  unfold fX3_isFace
  rw [ck_t (p_ok (by omega) (by decide)), p_ix (by omega), h s hs]
  unfold fcB
  by_cases g : cl n m F s = s
  · rw [if_pos (by rw [g]), beq_t.mpr g]; rfl
  · rw [if_neg (by rw [p_eq (by omega) (by omega)]; exact g), nbeq_f g]; rfl
/-- how far the ranks are, when the sets below k are through, and of k's points those below p -/
def RI (n m : Nat) (F : Nat → Nat) (k p : Nat) (R : Nat → Nat) : Prop := ∀ s, Fc n m F s → (∀ t p', (t < k ∨ (t = k ∧ p' < p)) → Fc n m F t → p' < n → cl n m F (t ||| 2 ^ p') = s → t ≠ s → rk n m F t + 1 ≤ R s) ∧ R s ≤ rk n m F s
theorem RI_self {k p : Nat} {R : Nat → Nat} (h : RI n m F k p R) (fk : Fc n m F k) : R k = rk n m F k := by
  refine Nat.le_antisymm (h k fk).2 ?_
  rcases rk_0 fk.1 with z | ⟨t, h1, h2, h3⟩
  · rw [z]; exact Nat.zero_le _
  · rw [h3]
    obtain ⟨i, hi, hj⟩ := sb_ex (a := k) (b := t) (fun z => h2.2.1 (Sb.as h2.1 z))
    have hin := tb_of_lt fk.1 hi
    exact (h k fk).1 t i (Or.inl h2.lt) h1 hin (h2.2.2 i hin hi hj) h2.2.1
theorem RI_same {k p : Nat} {R : Nat → Nat} (h : RI n m F k p R) (e : cl n m F (k ||| 2 ^ p) = k) : RI n m F k (p + 1) R := fun s fs => ⟨fun t p' ht ft hp hc hne => by
  rcases ht with ht | ⟨rfl, ht⟩
  · exact (h s fs).1 t p' (Or.inl ht) ft hp hc hne
  · by_cases g : p' = p
    · subst g; exact absurd (e.symm.trans hc) hne
    · exact (h s fs).1 t p' (Or.inr ⟨rfl, by omega⟩) ft hp hc hne, (h s fs).2⟩
theorem RI_step {k p : Nat} {R : Nat → Nat} (h : RI n m F k p R) (fk : Fc n m F k) (hp : p < n) (e : cl n m F (k ||| 2 ^ p) ≠ k) : RI n m F k (p + 1) (up1 R (cl n m F (k ||| 2 ^ p)) (max (R (cl n m F (k ||| 2 ^ p))) (R k + 1))) := by
  have hk := RI_self h fk
  have fa := fc_cl n m F (k ||| 2 ^ p)
  have hlt : k ||| 2 ^ p < 2 ^ n := Nat.or_lt_two_pow fk.1 (Nat.pow_lt_pow_right (by decide) hp)
  have hsb : Sb k (cl n m F (k ||| 2 ^ p)) := Sb.tr (sb_orl _ _) (cl_ext n m F hlt)
  intro s fs
  by_cases g : s = cl n m F (k ||| 2 ^ p)
  · subst g
    rw [up1_at]
    refine ⟨fun t p' ht ft hp' hc hne => ?_, Nat.max_le.mpr ⟨(h _ fs).2, by rw [hk]; exact rk_lt fs fk hsb (fun z => e z.symm)⟩⟩
    rcases ht with ht | ⟨rfl, ht⟩
    · exact Nat.le_trans ((h _ fs).1 t p' (Or.inl ht) ft hp' hc hne) (Nat.le_max_left _ _)
    · rw [← hk]; exact Nat.le_max_right _ _
  · rw [up1_ne _ _ g]
    refine ⟨fun t p' ht ft hp' hc hne => ?_, (h s fs).2⟩
    rcases ht with ht | ⟨rfl, ht⟩
    · exact (h s fs).1 t p' (Or.inl ht) ft hp' hc hne
    · by_cases g2 : p' = p
      · subst g2; exact absurd hc.symm g
      · exact (h s fs).1 t p' (Or.inr ⟨rfl, by omega⟩) ft hp' hc hne
theorem RI_next {k : Nat} {R : Nat → Nat} (h : RI n m F k n R) : RI n m F (k + 1) 0 R := fun s fs => ⟨fun t p' ht ft hp hc hne => (h s fs).1 t p' (by rcases ht with ht | ⟨_, ht⟩ <;> omega) ft hp hc hne, (h s fs).2⟩
theorem RI_skip {k : Nat} {R : Nat → Nat} (h : RI n m F k 0 R) (fk : ¬ Fc n m F k) : RI n m F (k + 1) 0 R := fun s fs => ⟨fun t p' ht ft hp hc hne => by
  have : t ≠ k := fun z => fk (z ▸ ft)
  exact (h s fs).1 t p' (by rcases ht with ht | ⟨_, ht⟩ <;> omega) ft hp hc hne, (h s fs).2⟩
/-- ranks in an array -/
def RR (n m : Nat) (F : Nat → Nat) (G : Nat → Int32) (R : Nat → Nat) : Prop := ∀ s, Fc n m F s → G s = nI (R s)
theorem eX3_rankIn {x : OX3} (hv : IncV n m F) (hc : ClR n m F x) {k : Nat} (hk : k < 2 ^ n) {G : Nat → Int32} (hG : ∃ R, RR n m F G R ∧ RI n m F k 0 R) : ∃ r, lp (fX3_rankFaces_L12 x (nI k, G)) lpN (0, G) = some r ∧ ∃ G', r = .inl (nI (k + 1), G') ∧ ∃ R, RR n m F G' R ∧ RI n m F (k + 1) 0 R := by
  have hn := hv.2.1
  have h8 := p2_256 hn
  refine lp_inv (fun p v => v.1 = nI p ∧ ∃ R, RR n m F v.2 R ∧ RI n m F k p R) _ n ⟨rfl, hG⟩ (fun p v hp hI => ?_) (fun v hI => ?_) (lpN_gt (by omega))
  · obtain ⟨vp, vG⟩ := v
    obtain ⟨h1, R, h2, h3⟩ := hI
    dsimp only at h1 h2
    subst h1
    unfold fX3_rankFaces_L12
    dsimp only
    rw [hc.1, if_neg (nI_ge hp (by omega)), bd_s (eX3_isFace (x := s3_ranks x vG) hn hc.2.2 hk)]
    by_cases fk : Fc n m F k
    · rw [if0_t ((fcB_t hk).mpr fk)]
      have hor : k ||| 2 ^ p < 2 ^ n := Nat.or_lt_two_pow fk.1 (Nat.pow_lt_pow_right (by decide) hp)
      have fa := fc_cl n m F (k ||| 2 ^ p)
      have ha := fa.1
      have hok : okI (nI k ||| jshl 1 (nI p)) 256 = true := by rw [p_shl1 (by omega), p_or]; exact p_ok (by omega) (by decide)
      have hval : q3_closed x (ix (nI k ||| jshl 1 (nI p))) = nI (cl n m F (k ||| 2 ^ p)) := by rw [p_shl1 (by omega), p_or, p_ix (by omega)]; exact hc.2.2 _ hor
      rw [ck_t hok, hval]
      by_cases e : cl n m F (k ||| 2 ^ p) = k
      · rw [if_pos (by rw [e])]
        exact Or.inl ⟨_, rfl, p_s1 p, R, h2, RI_same h3 e⟩
      · have hoa : okI (nI (cl n m F (k ||| 2 ^ p))) 256 = true := p_ok (by omega) (by decide)
        rw [if_neg (by rw [p_eq (by omega) (by omega)]; exact e), ck_t hoa, ck_t (p_ok (by omega) (by decide)), ck_t hoa]
        refine Or.inl ⟨_, rfl, p_s1 p, _, fun s fs => ?_, RI_step h3 fk hp e⟩
        show upd vG (ix (nI (cl n m F (k ||| 2 ^ p)))) _ s = _
        have b1 := rk_8 hn fa
        have b2 := rk_8 hn fk
        have b3 := (h3 _ fa).2
        have b4 := RI_self h3 fk
        rw [p_ix (by omega), p_ix (by omega), h2 _ fa, h2 _ fk, p_s1, p_max (by omega) (by omega)]
        by_cases g : s = cl n m F (k ||| 2 ^ p)
        · rw [g, upd_at, up1_at]
        · rw [upd_ne _ _ g, up1_ne _ _ g]; exact h2 s fs
    · rw [if0_f (fcB_f hk fk)]
      refine Or.inr ⟨_, rfl, vG, by rw [p_s1], R, h2, ?_⟩
      refine RI_skip (fun s fs => ⟨fun t p' ht ft hp hc hne => (h3 s fs).1 t p' (by rcases ht with ht | ⟨_, ht⟩ <;> omega) ft hp hc hne, (h3 s fs).2⟩) fk
  · obtain ⟨vp, vG⟩ := v
    obtain ⟨h1, R, h2, h3⟩ := hI
    dsimp only at h1 h2
    subst h1
    unfold fX3_rankFaces_L12
    dsimp only
    rw [hc.1, if_pos (nI_le (Nat.le_refl n) (by omega))]
    exact ⟨_, rfl, vG, by rw [p_s1], R, h2, RI_next h3⟩
theorem eX3_rankFaces {x : OX3} (hv : IncV n m F) (hc : ClR n m F x) (h0 : ∀ s, s < 2 ^ n → q3_ranks x s = 0) : ∃ R, fX3_rankFaces x = some (s3_ranks x R) ∧ RR n m F R (rk n m F) := by
  have hn := hv.2.1
  have h8 := p2_256 hn
  have hp := p2_pos n
  have key : ∃ r, lp (fX3_rankFaces_L2 x) lpN (0, q3_ranks x) = some r ∧ ∃ R, r = s3_ranks x R ∧ RR n m F R (rk n m F) := by
    refine lp_inv (fun k v => v.1 = nI k ∧ ∃ R, RR n m F v.2 R ∧ RI n m F k 0 R) _ (2 ^ n) ⟨rfl, fun _ => 0, fun s fs => h0 s fs.1, fun s fs => ⟨fun t p' ht => by omega, Nat.zero_le _⟩⟩ (fun k v hk hI => ?_) (fun v hI => ?_) (lpN_gt (by omega))
    · obtain ⟨vk, vG⟩ := v
      obtain ⟨h1, h2⟩ := hI
      dsimp only at h1 h2
      subst h1
      unfold fX3_rankFaces_L2
      rw [hc.2.1, if_neg (nI_nlt (by omega) (by omega))]
      obtain ⟨r, h3, G', rfl, h4⟩ := eX3_rankIn hv hc hk h2
      exact Or.inl ⟨_, h3, rfl, h4⟩
    · obtain ⟨vk, vG⟩ := v
      obtain ⟨h1, R, h2, h3⟩ := hI
      dsimp only at h1 h2
      subst h1
      unfold fX3_rankFaces_L2
      rw [hc.2.1, if_pos (nI_lt (by omega) (by omega))]
      refine ⟨_, rfl, vG, rfl, fun s fs => ?_⟩
      rw [h2 s fs]
      congr 1
      refine Nat.le_antisymm (h3 s fs).2 ?_
      rcases rk_0 fs.1 with z | ⟨t, g1, g2, g3⟩
      · rw [z]; exact Nat.zero_le _
      · rw [g3]
        obtain ⟨i, hi, hj⟩ := sb_ex (a := s) (b := t) (fun z => g2.2.1 (Sb.as g2.1 z))
        have hin := tb_of_lt fs.1 hi
        exact (h3 s fs).1 t i (Or.inl g1.1) g1 hin (g2.2.2 i hin hi hj) g2.2.1
  obtain ⟨r, h1, R, rfl, h2⟩ := key
  exact ⟨R, h1, h2⟩
end PL

/-! the class: whether the traces' lists are the same, by a tally -/
def Zt (a b : Nat) : Int32 := nI (4294967296 + a - b)
theorem zt_up {a b : Nat} (hb : b < 1000) : Zt a b + 1 = Zt (a + 1) b := by
  unfold Zt
  rw [p_s1, show 4294967296 + a - b + 1 = 4294967296 + (a + 1) - b by omega]
theorem zt_dn {a b : Nat} (hb : b < 1000) : Zt a b - 1 = Zt a (b + 1) := by
  unfold Zt
  rw [show (1 : Int32) = nI 1 from rfl, p_sub (by omega), show 4294967296 + a - b - 1 = 4294967296 + a - (b + 1) by omega]
theorem zt_0 : Zt 0 0 = 0 := by
  unfold Zt
  rw [show 4294967296 + 0 - 0 = 4294967296 by omega]
  exact tly_0
theorem zt_z {a b : Nat} (ha : a < 1000) (hb : b < 1000) : Zt a b = 0 ↔ a = b := tly_z ha hb
theorem upd2_0 {t : Nat → Int32} {a c v : Nat} (h : v = a ∨ v = c ∨ t v = 0) : upd (upd t a 0) c 0 v = 0 := by
  by_cases g : v = c
  · rw [g, upd_at]
  · rw [upd_ne _ _ g]
    by_cases g2 : v = a
    · rw [g2, upd_at]
    · rw [upd_ne _ _ g2]
      rcases h with h | h | h
      · exact absurd h g2
      · exact absurd h g
      · exact h
theorem ceq_s (A : Nat → Nat) (v k : Nat) : ceq A v (k + 1) = if Nat.beq (A k) v = true then ceq A v k + 1 else ceq A v k := rfl
theorem tly_step {t : Nat → Int32} {A C : Nat → Nat} {j w : Nat} (hj : j < 900) (h : t w = Zt (ceq A w j) (ceq C w j)) : upd (upd t (A j) (t (A j) + 1)) (C j) (upd t (A j) (t (A j) + 1) (C j) - 1) w = Zt (ceq A w (j + 1)) (ceq C w (j + 1)) := by
  have c1 : ceq A w j ≤ j := cnt_le _ j
  have c2 : ceq C w j ≤ j := cnt_le _ j
  have hU : upd t (A j) (t (A j) + 1) w = Zt (ceq A w (j + 1)) (ceq C w j) := by
    rw [ceq_s A]
    by_cases g : A j = w
    · rw [g, upd_at, h, zt_up (by omega), if_pos (beq_t.mpr rfl)]
    · rw [upd_ne _ _ (fun z => g z.symm), h, if_bf (nbeq_f g)]
  rw [ceq_s C]
  by_cases g : C j = w
  · rw [g, upd_at, hU, zt_dn (by omega), if_pos (beq_t.mpr rfl)]
  · rw [upd_ne _ _ (fun z => g z.symm), hU, if_bf (nbeq_f g)]
section AGR
variable {n m : Nat} {F G : Nat → Nat}
theorem eX4_agrees {o : OX4} {x y : OX2} {od im : Nat → Nat} {k : Nat} (hm : m ≤ 10) (hx : q2_facets x = nI m) (hxs : ∀ f, f < m → q2_sets x f = nI (F f)) (hys : ∀ f, f < m → q2_sets y f = nI (G f)) (hF : ∀ f, f < m → F f < 256) (hG : ∀ f, f < m → G f < 256) (hk : k ≤ 8) (ho : ∀ i, i < k → q4_order o i = nI (od i)) (ho8 : ∀ i, i < k → od i < 8) (hi : ∀ i, i < k → q4_image o i = nI (im i)) (hi8 : ∀ i, i < k → im i < 8) : ∃ r, fX4_agrees o x y (nI k) = some r ∧ YN r.1 ((lsM (fun f => trS od k (F f)) m).Perm (lsM (fun f => trS im k (G f)) m)) := by
  have h8 := p2_256 hk
  have hA : ∀ s, trS od k s < 256 := fun s => Nat.lt_of_lt_of_le (trS_lt od k s) h8
  have hC : ∀ s, trS im k s < 256 := fun s => Nat.lt_of_lt_of_le (trS_lt im k s) h8
  unfold fX4_agrees
  refine lp_inv (fun j v => v.1 = nI j ∧ ∀ f, f < j → v.2.1 f = nI (trS od k (F f)) ∧ v.2.2.1 f = nI (trS im k (G f)) ∧ v.2.2.2 (trS od k (F f)) = 0 ∧ v.2.2.2 (trS im k (G f)) = 0) _ m ⟨rfl, fun f hf => absurd hf (Nat.not_lt_zero f)⟩ (fun j v hj hI => Or.inl ?_) (fun v hI => ?_) (lpN_gt (by omega))
  · obtain ⟨vj, va, vc, vt⟩ := v
    obtain ⟨h1, h2⟩ := hI
    dsimp only at h1 h2
    subst h1
    have hAj := hA (F j)
    have hCj := hC (G j)
    have hok : okI (nI j) 10 = true := p_ok (by omega) (by decide)
    unfold fX4_agrees_L3
    dsimp only
    rw [hx, if_neg (nI_ge hj (by omega)), p_ix (by omega), ck_t hok, hxs j hj, bd_s (eX4_trace hk (hF j hj) ho ho8), ck_t hok, ck_t hok, hys j hj, bd_s (eX4_trace hk (hG j hj) hi hi8), ck_t hok, ck_t hok, upd_at, upd_at, ck_t (p_ok hAj (by decide)), ck_t hok, ck_t (p_ok hCj (by decide)), p_s1, p_ix (by omega), p_ix (by omega)]
    refine ⟨_, rfl, rfl, fun f hf => ?_⟩
    dsimp only
    by_cases e : f = j
    · rw [e, upd_at, upd_at]
      exact ⟨rfl, rfl, upd2_0 (Or.inl rfl), upd2_0 (Or.inr (Or.inl rfl))⟩
    · obtain ⟨g1, g2, g3, g4⟩ := h2 f (by omega)
      rw [upd_ne _ _ e, upd_ne _ _ e]
      exact ⟨g1, g2, upd2_0 (Or.inr (Or.inr g3)), upd2_0 (Or.inr (Or.inr g4))⟩
  · obtain ⟨vj, va, vc, vt⟩ := v
    obtain ⟨h1, h2⟩ := hI
    dsimp only at h1 h2
    subst h1
    unfold fX4_agrees_L3
    dsimp only
    rw [hx, if_pos (nI_le (Nat.le_refl m) (by omega))]
    refine ex_ex (lp_inv (fun j v => v.1 = nI j ∧ ∀ w, (∃ f, f < m ∧ (w = trS od k (F f) ∨ w = trS im k (G f))) → v.2 w = Zt (ceq (fun f => trS od k (F f)) w j) (ceq (fun f => trS im k (G f)) w j)) _ m ⟨rfl, fun w hw => ?_⟩ (fun j v hj hI => Or.inl ?_) (fun v hI => ?_) (lpN_gt (by omega)))
    · obtain ⟨f, hf, hw⟩ := hw
      have e : vt w = 0 := by
        rcases hw with rfl | rfl
        · exact (h2 f hf).2.2.1
        · exact (h2 f hf).2.2.2
      exact e.trans zt_0.symm
    · obtain ⟨vj, vs⟩ := v
      obtain ⟨g1, g2⟩ := hI
      dsimp only at g1 g2
      subst g1
      have hok : okI (nI j) 10 = true := p_ok (by omega) (by decide)
      have okA : okI (nI (trS od k (F j))) 256 = true := p_ok (hA (F j)) (by decide)
      have okC : okI (nI (trS im k (G j))) 256 = true := p_ok (hC (G j)) (by decide)
      have hAj := hA (F j)
      have hCj := hC (G j)
      unfold fX4_agrees_L91
      dsimp only
      rw [hx, if_neg (nI_ge hj (by omega)), p_ix (by omega), (h2 j hj).1, (h2 j hj).2.1, ck_t hok, ck_t okA, ck_t okA, ck_t hok, ck_t okC, ck_t okC, p_ix (by omega), p_ix (by omega), p_s1]
      refine ⟨_, rfl, rfl, fun w hw => ?_⟩
      exact tly_step (A := fun f => trS od k (F f)) (C := fun f => trS im k (G f)) (by omega) (g2 w hw)
    · obtain ⟨vj, vs⟩ := v
      obtain ⟨g1, g2⟩ := hI
      dsimp only at g1 g2
      subst g1
      unfold fX4_agrees_L91
      dsimp only
      rw [hx, if_pos (nI_le (Nat.le_refl m) (by omega))]
      refine ex_ex (lp_inv (fun j v => v = nI j ∧ ∀ f, f < j → ceq (fun f => trS od k (F f)) (trS od k (F f)) m = ceq (fun f => trS im k (G f)) (trS od k (F f)) m) _ m ⟨rfl, fun f hf => absurd hf (Nat.not_lt_zero f)⟩ (fun j v hj hI => ?_) (fun v hI => ?_) (lpN_gt (by omega)))
      · obtain ⟨rfl, q2⟩ := hI
        have c1 : ceq (fun f => trS od k (F f)) (trS od k (F j)) m ≤ m := cnt_le _ m
        have c2 : ceq (fun f => trS im k (G f)) (trS od k (F j)) m ≤ m := cnt_le _ m
        have hz := zt_z (a := ceq (fun f => trS od k (F f)) (trS od k (F j)) m) (b := ceq (fun f => trS im k (G f)) (trS od k (F j)) m) (by omega) (by omega)
        have hAj := hA (F j)
        unfold fX4_agrees_L141
        dsimp only
        have hva : va (ix (nI j)) = nI (trS od k (F j)) := by
          rw [p_ix (by omega)]
          exact (h2 j hj).1
        have hc : (vs (ix (va (ix (nI j)))) = 0) ↔ ceq (fun f => trS od k (F f)) (trS od k (F j)) m = ceq (fun f => trS im k (G f)) (trS od k (F j)) m := by
          rw [hva, p_ix (by omega), g2 _ ⟨j, hj, Or.inl rfl⟩]
          exact hz
        rw [hx, if_neg (nI_ge hj (by omega)), ck_t (p_ok (by omega) (by decide)), ck_t (show okI (va (ix (nI j))) 256 = true by rw [hva]; exact p_ok hAj (by decide)), p_s1]
        by_cases e : ceq (fun f => trS od k (F f)) (trS od k (F j)) m = ceq (fun f => trS im k (G f)) (trS od k (F j)) m
        · rw [if_pos (hc.mpr e)]
          refine Or.inl ⟨_, rfl, rfl, fun f hf => ?_⟩
          by_cases z : f = j
          · rw [z]; exact e
          · exact q2 f (by omega)
        · rw [if_neg (fun z => e (hc.mp z))]
          exact Or.inr ⟨_, rfl, Or.inr ⟨rfl, fun z => e (perm_ceq.mp z _)⟩⟩
      · obtain ⟨rfl, q2⟩ := hI
        unfold fX4_agrees_L141
        dsimp only
        rw [hx, if_pos (nI_le (Nat.le_refl m) (by omega))]
        exact ⟨_, rfl, Or.inl ⟨rfl, ceq_half (fun f hf => q2 f hf)⟩⟩
end AGR

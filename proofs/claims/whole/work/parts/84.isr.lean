/-! the reference's isomorphisms -/
def isoT (n m : Nat) (F : Nat → Nat) (n' m' : Nat) (G : Nat → Nat) : List (List Nat) := if n' = n then (if m' = m then elS (isoB n m F G) n n [] else []) else []
section ISR
variable {n m g : Nat} {F : Nat → Nat} {n' m' : Nat} {G : Nat → Nat}
theorem preOk_0 (n : Nat) : PreOk n [] (2 ^ n - 1) := ⟨fun i hi => absurd hi (Nat.not_lt_zero i), fun i j hi => absurd hi (Nat.not_lt_zero i), by have := p2_pos n; omega, fun q hq => ⟨fun _ i hi => absurd hi (Nat.not_lt_zero i), fun _ => by rw [Nat.testBit_two_pow_sub_one, decide_eq_true hq]⟩⟩
theorem stC_0 (a : Nat → Int32) : StC n g [] 0 0 a := ⟨rfl, rfl, fun z => absurd rfl z⟩
theorem eX7_isomorphisms {o : OX7} {o1 : Nat → Int32} (hv : IncV n m F) (hv' : IncV n' m' G) (hN : NowR n m F (q7_now o)) (hO : NowR n' m' G o1) (hgn : g < n) : ∃ r, fX7_isomorphisms o o1 (nI g) = some r ∧ r.1 = nI (isoT n m F n' m' G).length ∧ StC n g (isoT n m F n' m' G) (q7_found r.2) (q7_images r.2) (q7_firstImage r.2) := by
  obtain ⟨hn1, hn, hm, hF⟩ := hv
  obtain ⟨hn1', hn', hm', hG⟩ := hv'
  unfold fX7_isomorphisms isoT
  rw [hO.n, hN.n, ifq (by omega) (by omega), hO.m, hN.m, ifq (by omega) (by omega)]
  by_cases e1 : n' = n
  · rw [if_pos e1, if_pos e1]
    by_cases e2 : m' = m
    · subst e1
      subst e2
      rw [if_pos rfl, if_pos rfl]
      have hp8 : 8 ^ n' ≤ 8 ^ 8 := Nat.pow_le_pow_right (by decide) hn
      have h88 : (8 : Nat) ^ 8 = 16777216 := by decide
      refine lp_inv (fun k v => v.1 = nI k ∧ ∀ i, i < k → v.2 i = o1 i) _ 12 ⟨rfl, fun i hi => absurd hi (Nat.not_lt_zero i)⟩ (fun k v hk hI => Or.inl ?_) (fun v hI => ?_) (lpN_gt (by omega))
      · obtain ⟨vk, va⟩ := v
        obtain ⟨h1, h2⟩ := hI
        dsimp only at h1 h2
        subst h1
        unfold fX7_isomorphisms_L43
        dsimp only
        rw [if_neg (show ¬ (12 : Int32) ≤ nI k from nI_ge (b := 12) hk (by omega)), ck_t (p_ok (by omega) (by decide)), ck_t (p_ok (by omega) (by decide)), p_ix (by omega), p_s1]
        refine ⟨_, rfl, rfl, fun i hi => ?_⟩
        by_cases z : i = k
        · rw [z]; exact upd_at _ _ _
        · exact (upd_ne _ _ (by omega)).trans (h2 i (by omega))
      · obtain ⟨vk, va⟩ := v
        obtain ⟨h1, h2⟩ := hI
        dsimp only at h1 h2
        subst h1
        have hO' : NowR n' m' G va := ⟨(h2 0 (by decide)).trans hO.1, (h2 1 (by decide)).trans hO.2.1, fun f hf => (h2 (2 + f) (by omega)).trans (hO.2.2 f hf)⟩
        unfold fX7_isomorphisms_L43
        dsimp only
        rw [if_pos (show (12 : Int32) ≤ nI 12 from nI_le (a := 12) (Nat.le_refl 12) (by omega)), bd_s (eX7_all (m := m') (F := F) hn ?hall)]
        case hall => exact hN
        refine ex_ex (bd_ex (goT (g := g) hn hm hF hG hgn n' 10 [] 0 [] _ (2 ^ n' - 1) (by omega) rfl (by omega) (preOk_0 n') (by exact hN) (by exact hO') (by rfl) (fun i hi => absurd hi (Nat.not_lt_zero i)) (by exact stC_0 _) (by show 0 + 8 ^ n' < 2147483648; omega)) (fun r hr => ?_))
        obtain ⟨r1, r2⟩ := hr
        rw [List.nil_append] at r1
        exact ⟨_, rfl, r1.1, r1⟩
    · rw [if_neg e2, if_neg e2]
      exact ⟨_, rfl, rfl, stC_0 _⟩
  · rw [if_neg e1, if_neg e1]
    exact ⟨_, rfl, rfl, stC_0 _⟩
end ISR

/-! the class: the search as a whole, and what it tells of isomorphisms -/
section SEA
variable {n m : Nat} {F G od al : Nat → Nat}
theorem okA_ex (hod : IjN n od) : elS (okA n m F G od al) n n [] ≠ [] ↔ ∃ g, IsoF n m F G g ∧ ∀ p, p < n → (al p).testBit (g p) = true := by
  constructor
  · intro h
    obtain ⟨l, hl⟩ := List.exists_mem_of_ne_nil _ h
    obtain ⟨h1, h2, _⟩ := elS_mem n [] l hl
    obtain ⟨g1, g2⟩ := okA_t.mp h1
    refine ⟨_, g1, fun p hp => ?_⟩
    obtain ⟨i, hi, rfl⟩ := hod.surj hp
    show (al (od i)).testBit (l.getD (ivS od (od i) n) 0) = true
    rw [okA_od hod hi]
    exact g2 i hi
  · rintro ⟨g, h1, h2⟩ h
    have hm : lfn n (fun i => g (od i)) ∈ elS (okA n m F G od al) n n [] := by
      refine mem_elS n [] _ (okA_t.mpr ⟨h1.congr fun p hp => ?_, fun i hi => ?_⟩) (by rw [lfn_len]; exact (Nat.zero_add n).symm) (fun i hi => absurd hi (Nat.not_lt_zero i)) (fun i hi => ?_)
      · have hv := ivS_s n (hod.surj hp)
        show g p = (lfn n (fun i => g (od i))).getD (ivS od p n) 0
        rw [lfn_at _ n _ hv.1, hv.2]
      · rw [lfn_at _ n i hi]
        exact h2 (od i) (hod.1 i hi)
      · rw [lfn_len] at hi
        rw [lfn_at _ n i hi]
        exact h1.1.1 _ (hod.1 i hi)
    rw [h] at hm
    exact List.not_mem_nil hm
theorem eX4_search {n' m' : Nat} {o : OX4} {x y : OX2} (hv : IncV n m F) (hv' : IncV n' m' G) (hx : IncR n m F x) (hy : IncR n' m' G y) (hod : IjN n od) (hal : ∀ i, i < n → al i < 256) (ho : ∀ i, i < n → q4_order o i = nI (od i)) (ha : ∀ i, i < n → q4_allowed o i = nI (al i)) : ∃ r, fX4_search o x y = some r ∧ ((r.1 = 1 ∧ n' = n ∧ m' = m ∧ elS (okA n m F G od al) n n [] ≠ [] ∧ ∀ i, i < n → q4_image r.2 i = nI (((elS (okA n m F G od al) n n []).headD []).getD i 0)) ∨ (r.1 = 0 ∧ (n' = n → m' = m → elS (okA n m F G od al) n n [] = []))) := by
  obtain ⟨hn1, hn, hm, hF⟩ := hv
  obtain ⟨hn1', hn', hm', hG⟩ := hv'
  unfold fX4_search
  rw [hx.1, hy.1, ifq (by omega) (by omega), hx.2.1, hy.2.1, ifq (by omega) (by omega)]
  by_cases e1 : n = n'
  · rw [if_pos e1]
    by_cases e2 : m = m'
    · rw [if_pos e2]
      subst e1
      subst e2
      have hT : (lsM (fun f => trS od 0 (F f)) m).Perm (lsM (fun f => trS (fun i => ([] : List Nat).getD i 0) 0 (G f)) m) := List.Perm.refl _
      refine bd_ex (extT (od := od) (al := al) hn hm hx hy hF hG hod hal n 10 [] 0 0 o (by omega) rfl (Nat.zero_add n) (preU_0 n) ho ha (fun i hi => absurd hi (Nat.not_lt_zero i)) (fun i hi => absurd hi (Nat.not_lt_zero i)) hT) (fun w hw => ?_)
      rcases hw with ⟨w1, w2, w3⟩ | ⟨w1, w2, _⟩
      · rw [w1, if_neg n10]
        exact ⟨_, rfl, Or.inl ⟨rfl, rfl, rfl, w2, w3⟩⟩
      · rw [w1, if_pos (rfl : (0 : Int32) = 0)]
        exact ⟨_, rfl, Or.inr ⟨rfl, fun _ _ => w2⟩⟩
    · rw [if_neg e2]
      exact ⟨_, rfl, Or.inr ⟨rfl, fun _ z => absurd z.symm e2⟩⟩
  · rw [if_neg e1]
    exact ⟨_, rfl, Or.inr ⟨rfl, fun z => absurd z.symm e1⟩⟩
/-- the same incidence on both sides: whether an automorphism is within what is allowed -/
theorem eX4_searchS {o : OX4} {x : OX2} (hv : IncV n m F) (hx : IncR n m F x) (hod : IjN n od) (hal : ∀ i, i < n → al i < 256) (ho : ∀ i, i < n → q4_order o i = nI (od i)) (ha : ∀ i, i < n → q4_allowed o i = nI (al i)) : ∃ r, fX4_search o x x = some r ∧ YN r.1 (∃ g, IsoF n m F F g ∧ ∀ p, p < n → (al p).testBit (g p) = true) := by
  obtain ⟨r, r1, r2⟩ := eX4_search hv hv hx hx hod hal ho ha
  refine ⟨r, r1, ?_⟩
  rcases r2 with ⟨e, _, _, h, _⟩ | ⟨e, h⟩
  · exact Or.inl ⟨e, (okA_ex hod).mp h⟩
  · exact Or.inr ⟨e, fun z => (okA_ex hod).mpr z (h rfl rfl)⟩
end SEA

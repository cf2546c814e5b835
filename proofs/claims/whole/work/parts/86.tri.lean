/-! whole traces tell an isomorphism -/
theorem mpS_trS {n s : Nat} {im : Nat → Nat} (hi : IjN n im) (hs : s < 2 ^ n) : mpS n im (trS im n s) = s := tb_ext fun q => by
  rw [tb_mpS]
  constructor
  · rintro ⟨i, h1, h2, h3⟩
    rw [tb_trS, Bool.and_eq_true] at h2
    rw [← h3]
    exact h2.2
  · intro h
    obtain ⟨i, h1, h2⟩ := hi.surj (tb_small hs h)
    refine ⟨i, h1, ?_, h2⟩
    rw [tb_trS, Bool.and_eq_true, decide_eq_true_eq, h2]
    exact ⟨h1, h⟩
theorem mpS_trO {n s : Nat} {od im : Nat → Nat} (ho : IjN n od) : mpS n im (trS od n s) = mpS n (fun p => im (ivS od p n)) s := tb_ext fun q => by
  obtain ⟨v1, v2⟩ := ho.inv
  rw [tb_mpS, tb_mpS]
  constructor
  · rintro ⟨i, h1, h2, h3⟩
    rw [tb_trS, Bool.and_eq_true] at h2
    refine ⟨od i, ho.1 i h1, h2.2, ?_⟩
    show im (ivS od (od i) n) = q
    rw [v2 i h1]
    exact h3
  · rintro ⟨p, h1, h2, h3⟩
    have hp := ivS_s n (ho.surj h1)
    refine ⟨ivS od p n, hp.1, ?_, h3⟩
    rw [tb_trS, Bool.and_eq_true, decide_eq_true_eq, hp.2]
    exact ⟨hp.1, h2⟩
theorem trace_iso {n m : Nat} {F G od im : Nat → Nat} (hG : ∀ f, f < m → G f < 2 ^ n) (ho : IjN n od) (hi : IjN n im) (h : (lsM (fun f => trS od n (F f)) m).Perm (lsM (fun f => trS im n (G f)) m)) : IsoF n m F G (fun p => im (ivS od p n)) := by
  have h1 := h.map (mpS n im)
  rw [lsM_map, lsM_map, lsM_congr (A := fun f => mpS n im (trS im n (G f))) (C := G) fun f hf => mpS_trS hi (hG f hf), lsM_congr (A := fun f => mpS n im (trS od n (F f))) (C := fun f => mpS n (fun p => im (ivS od p n)) (F f)) fun f _ => mpS_trO ho] at h1
  refine ⟨⟨fun p hp => hi.1 _ (ho.inv.1.1 p hp), fun p q hp hq e => ho.inv.1.2 p q hp hq (hi.2 _ _ (ho.inv.1.1 p hp) (ho.inv.1.1 q hq) e)⟩, h1⟩

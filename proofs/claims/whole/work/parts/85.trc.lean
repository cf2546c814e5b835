/-! the class: traces -/
theorem perm_half : ∀ (l k : List Nat), l.length = k.length → (∀ a, a ∈ l → l.count a = k.count a) → l.Perm k := by
  intro l
  induction l with
  | nil =>
    intro k h _
    rw [List.length_eq_zero_iff.mp h.symm]
  | cons a t ih =>
    intro k h g
    have ha : a ∈ k := by
      have h1 := g a List.mem_cons_self
      rw [List.count_cons_self] at h1
      exact List.count_pos_iff.mp (by omega)
    have hk := List.perm_cons_erase ha
    have hl := List.length_erase_of_mem ha
    rw [List.length_cons] at h
    refine (List.Perm.cons a (ih (k.erase a) (by omega) (fun b hb => ?_))).trans hk.symm
    have h2 := g b (List.mem_cons_of_mem a hb)
    have h3 := List.perm_iff_count.mp hk b
    rw [h3] at h2
    by_cases e : a = b
    · rw [e] at h2 ⊢
      rw [List.count_cons_self, List.count_cons_self] at h2
      omega
    · rw [List.count_cons_of_ne e, List.count_cons_of_ne e] at h2
      exact h2
theorem ceq_half {A C : Nat → Nat} {m : Nat} (h : ∀ f, f < m → ceq A (A f) m = ceq C (A f) m) : (lsM A m).Perm (lsM C m) := by
  refine perm_half _ _ (by unfold lsM; rw [List.length_map, List.length_map]) (fun a ha => ?_)
  obtain ⟨f, hf, rfl⟩ := List.mem_map.mp ha
  rw [count_lsM, count_lsM]
  exact h f (List.mem_range.mp hf)
theorem trS_s (o : Nat → Nat) (k s : Nat) : trS o (k + 1) s = if s.testBit (o k) = true then trS o k s ||| 2 ^ k else trS o k s := rfl
theorem tb_trS (o : Nat → Nat) (k s i : Nat) : (trS o k s).testBit i = (decide (i < k) && s.testBit (o i)) := tb_nbs _ k 0 i
theorem trS_lt (o : Nat → Nat) (k s : Nat) : trS o k s < 2 ^ k := nbs_lt _ k 0
theorem eX4_trace {o1 : Nat → Int32} {od : Nat → Nat} {k s : Nat} (hk : k ≤ 8) (hs : s < 256) (ho : ∀ i, i < k → o1 i = nI (od i)) (h8 : ∀ i, i < k → od i < 8) : fX4_trace (nI s) o1 (nI k) = some (nI (trS od k s)) := by
  unfold fX4_trace
  refine lp_go (fun j => (nI (trS od j s), nI j)) k (fun j hj => ?_) ?_ (lpN_gt (by omega))
  · have hoj := h8 j hj
    unfold fX4_trace_L5
    dsimp only
    rw [if_neg (nI_ge hj (by omega)), ck_t (p_ok (by omega) (by decide)), p_ix (by omega), ho j hj, p_bit1 (by omega) (by omega), p_shl _ (by omega), p_or, p_s1, shl_b, trS_s]
    rcases bool_ft (s.testBit (od j)) with b | b
    · rw [if_bf b, if_bf b, Nat.or_zero]
    · rw [if_pos b, if_pos b]
  · unfold fX4_trace_L5
    dsimp only
    rw [if_pos (nI_le (Nat.le_refl k) (by omega))]
    rfl
/-- the traces of two permutations' ends: an isomorphism keeps them, and whole traces tell it -/
theorem iso_trace {n m : Nat} {F G x od im : Nat → Nat} (hx : IsoF n m F G x) {k : Nat} (ho : ∀ i, i < k → od i < n) (hi : ∀ i, i < k → im i = x (od i)) : (lsM (fun f => trS od k (F f)) m).Perm (lsM (fun f => trS im k (G f)) m) := by
  have h1 := hx.2.map (trS im k)
  rw [lsM_map, lsM_map] at h1
  refine (List.Perm.of_eq (lsM_congr fun f _ => tb_ext fun i => ?_)).trans h1
  rw [tb_trS, tb_trS, Bool.and_eq_true, Bool.and_eq_true, decide_eq_true_eq]
  constructor
  · rintro ⟨g1, g2⟩
    refine ⟨g1, ?_⟩
    rw [hi i g1]
    exact (tb_mpS x (F _) _ n).mpr ⟨od i, ho i g1, g2, rfl⟩
  · rintro ⟨g1, g2⟩
    refine ⟨g1, ?_⟩
    rw [hi i g1] at g2
    obtain ⟨p, p1, p2, p3⟩ := (tb_mpS x (F _) _ n).mp g2
    rw [← hx.1.2 p (od i) p1 (ho i g1) p3]
    exact p2

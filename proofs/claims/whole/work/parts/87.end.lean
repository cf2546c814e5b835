/-! the list of all isomorphisms holds each once -/
theorem fmr_nd {α : Type} {f : Nat → List α} (h : ∀ q, (f q).Nodup) (g : ∀ q t a, q ≠ t → a ∈ f q → a ∈ f t → False) : ∀ k, (fmr f k).Nodup := by
  intro k
  induction k with
  | zero => exact List.Pairwise.nil
  | succ k ih =>
    rw [fmr_s]
    refine List.pairwise_append.mpr ⟨ih, h k, fun a ha b hb e => ?_⟩
    obtain ⟨q, h1, h2⟩ := mem_fmr.mp ha
    rw [e] at h2
    exact g q k b (by omega) h2 hb
theorem elS_nd {ok : List Nat → Bool} {n : Nat} : ∀ d pre, (elS ok n d pre).Nodup := by
  intro d
  induction d with
  | zero =>
    intro pre
    show (if ok pre = true then [pre] else []).Nodup
    split
    · exact List.pairwise_singleton _ _
    · exact List.Pairwise.nil
  | succ d ih =>
    intro pre
    refine fmr_nd (fun q => ih _) (fun q t a hqt h1 h2 => ?_) n
    exact hqt ((elS_at h1).symm.trans (elS_at h2))
/-- a function's first n values as a list -/
def lfn (n : Nat) (x : Nat → Nat) : List Nat := (List.range n).map x
theorem lfn_len (n : Nat) (x : Nat → Nat) : (lfn n x).length = n := by
  unfold lfn
  rw [List.length_map, List.length_range]
theorem lfn_at (x : Nat → Nat) : ∀ n i, i < n → (lfn n x).getD i 0 = x i := by
  intro n
  induction n with
  | zero => intro i h; exact absurd h (Nat.not_lt_zero i)
  | succ n ih =>
    intro i h
    have e : lfn (n + 1) x = lfn n x ++ [x n] := map_s x n
    rw [e]
    by_cases g : i = n
    · have := getD_m (lfn n x) (x n)
      rw [lfn_len] at this
      rw [g]; exact this
    · rw [getD_l _ _ (by rw [lfn_len]; omega)]
      exact ih i (by omega)
/-- every isomorphism is in the list -/
theorem iso_mem {n m : Nat} {F G x : Nat → Nat} (h : IsoF n m F G x) : lfn n x ∈ elS (isoB n m F G) n n [] := by
  refine mem_elS n [] _ (isoB_t.mpr (h.congr fun p hp => (lfn_at x n p hp).symm)) (by rw [lfn_len]; exact (Nat.zero_add n).symm) (fun i hi => absurd hi (Nat.not_lt_zero i)) (fun i hi => ?_)
  rw [lfn_len] at hi
  rw [lfn_at x n i hi]
  exact h.1.1 i hi
theorem mem_iso {n m : Nat} {F G : Nat → Nat} {l : List Nat} (h : l ∈ elS (isoB n m F G) n n []) : IsoF n m F G (xl l) ∧ l.length = n := by
  obtain ⟨h1, h2, _⟩ := elS_mem n [] l h
  exact ⟨isoB_t.mp h1, by rw [h2]; exact Nat.zero_add n⟩

/-! orbits and stabilisers -/
def fxB (k : Nat) (l : List Nat) : Bool := (List.range k).all fun i => Nat.beq (l.getD i 0) i
theorem fxB_t {k : Nat} {l : List Nat} : fxB k l = true ↔ ∀ i, i < k → l.getD i 0 = i := by
  unfold fxB
  rw [List.all_eq_true]
  constructor
  · intro h i hi
    exact beq_t.mp (h i (List.mem_range.mpr hi))
  · intro h i hi
    exact beq_t.mpr (h i (List.mem_range.mp hi))
def stL (n m : Nat) (F : Nat → Nat) (k : Nat) : List (List Nat) := (elS (isoB n m F F) n n []).filter (fxB k)
def fbL (n m : Nat) (F : Nat → Nat) (k q : Nat) : List (List Nat) := (stL n m F k).filter fun l => Nat.beq (l.getD k 0) q
section ORB
variable {n m : Nat} {F : Nat → Nat}
theorem mem_stL {k : Nat} {l : List Nat} : l ∈ stL n m F k ↔ l ∈ elS (isoB n m F F) n n [] ∧ ∀ i, i < k → l.getD i 0 = i := by
  unfold stL
  rw [List.mem_filter, fxB_t]
theorem mem_fbL {k q : Nat} {l : List Nat} : l ∈ fbL n m F k q ↔ l ∈ stL n m F k ∧ l.getD k 0 = q := by
  unfold fbL
  rw [List.mem_filter, beq_t]
theorem stL_nd (k : Nat) : (stL n m F k).Nodup := List.Pairwise.filter _ (elS_nd n [])
theorem fbL_nd (k q : Nat) : (fbL n m F k q).Nodup := List.Pairwise.filter _ (stL_nd k)
theorem nd_inj {α β : Type} [DecidableEq β] {L : List α} {M : List β} (φ : α → β) (hL : L.Nodup) (hi : ∀ a b, a ∈ L → b ∈ L → φ a = φ b → a = b) (hm : ∀ a, a ∈ L → φ a ∈ M) : L.length ≤ M.length := by
  have h := nd_le (L.map φ) M (List.pairwise_map.mpr (List.Pairwise.imp_of_mem (fun {a b} ha hb hab e => hab (hi a b ha hb e)) hL)) (fun b hb => by
    obtain ⟨a, ha, rfl⟩ := List.mem_map.mp hb
    exact hm a ha)
  rw [List.length_map] at h
  exact h
theorem cmp_inj {z : Nat → Nat} (hz : IsoF n m F F z) {a b : List Nat} (ha : a ∈ elS (isoB n m F F) n n []) (hb : b ∈ elS (isoB n m F F) n n []) (h : lfn n (fun p => z (xl a p)) = lfn n (fun p => z (xl b p))) : a = b := by
  obtain ⟨a1, a2⟩ := mem_iso ha
  obtain ⟨b1, b2⟩ := mem_iso hb
  refine getD_ext a b (a2.trans b2.symm) (fun i hi => ?_)
  have hin : i < n := by omega
  have e := congrArg (fun l => List.getD l i 0) h
  rw [lfn_at _ n i hin, lfn_at _ n i hin] at e
  exact hz.1.2 _ _ (a1.1.1 i hin) (b1.1.1 i hin) e
theorem fb_len (hF : ∀ f, f < m → F f < 2 ^ n) {k q : Nat} (hk : k < n) {y : List Nat} (hy : y ∈ fbL n m F k q) : (fbL n m F k q).length = (stL n m F (k + 1)).length := by
  obtain ⟨y1, y2⟩ := mem_fbL.mp hy
  obtain ⟨y3, y4⟩ := mem_stL.mp y1
  obtain ⟨y5, y6⟩ := mem_iso y3
  obtain ⟨v1, v2⟩ := y5.1.inv
  have hi := y5.inv hF
  have fix : ∀ i, i < k → ivS (xl y) i n = i := fun i hik => by
    have h := v2 i (by omega)
    rw [show xl y i = i from y4 i hik] at h
    exact h
  have fixq : ivS (xl y) q n = k := by
    have h := v2 k hk
    rw [show xl y k = q from y2] at h
    exact h
  refine Nat.le_antisymm ?_ ?_
  · refine nd_inj (fun l => lfn n (fun p => ivS (xl y) (xl l p) n)) (fbL_nd k q) (fun a b ha hb e => ?_) (fun a ha => ?_)
    · exact cmp_inj hi (mem_stL.mp (mem_fbL.mp ha).1).1 (mem_stL.mp (mem_fbL.mp hb).1).1 e
    · obtain ⟨a1, a2⟩ := mem_fbL.mp ha
      obtain ⟨a3, a4⟩ := mem_stL.mp a1
      refine mem_stL.mpr ⟨iso_mem (hi.comp (mem_iso a3).1), fun i hik => ?_⟩
      rw [lfn_at _ n i (by omega)]
      by_cases g : i = k
      · rw [g, show xl a k = q from a2]; exact fixq
      · rw [show xl a i = i from a4 i (by omega)]; exact fix i (by omega)
  · refine nd_inj (fun l => lfn n (fun p => xl y (xl l p))) (stL_nd (k + 1)) (fun a b ha hb e => ?_) (fun a ha => ?_)
    · exact cmp_inj y5 (mem_stL.mp ha).1 (mem_stL.mp hb).1 e
    · obtain ⟨a3, a4⟩ := mem_stL.mp ha
      refine mem_fbL.mpr ⟨mem_stL.mpr ⟨iso_mem (y5.comp (mem_iso a3).1), fun i hik => ?_⟩, ?_⟩
      · rw [lfn_at _ n i (by omega), show xl a i = i from a4 i (by omega)]
        exact y4 i hik
      · rw [lfn_at _ n k hk, show xl a k = k from a4 k (by omega)]
        exact y2
end ORB

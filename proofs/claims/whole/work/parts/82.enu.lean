/-! the isomorphisms, listed in the order of the search -/
def fmr {α : Type} (f : Nat → List α) (k : Nat) : List α := (List.range k).flatMap f
theorem fmr_s {α : Type} (f : Nat → List α) (k : Nat) : fmr f (k + 1) = fmr f k ++ f k := by
  unfold fmr
  rw [List.range_succ, List.flatMap_append, List.flatMap_singleton]
theorem fmr_0 {α : Type} (f : Nat → List α) : fmr f 0 = [] := rfl
theorem mem_fmr {α : Type} {f : Nat → List α} {k : Nat} {a : α} : a ∈ fmr f k ↔ ∃ q, q < k ∧ a ∈ f q := by
  unfold fmr
  rw [List.mem_flatMap]
  constructor
  · rintro ⟨q, h1, h2⟩
    exact ⟨q, List.mem_range.mp h1, h2⟩
  · rintro ⟨q, h1, h2⟩
    exact ⟨q, List.mem_range.mpr h1, h2⟩
theorem fmr_len {α : Type} {f : Nat → List α} {b : Nat} (h : ∀ q, (f q).length ≤ b) : ∀ k, (fmr f k).length ≤ k * b := by
  intro k
  induction k with
  | zero => exact Nat.zero_le _
  | succ k ih =>
    rw [fmr_s, List.length_append, Nat.succ_mul]
    exact Nat.add_le_add ih (h k)
def elS (ok : List Nat → Bool) (n : Nat) : Nat → List Nat → List (List Nat)
  | 0, pre => if ok pre = true then [pre] else []
  | d + 1, pre => fmr (fun q => elS ok n d (pre ++ [q])) n
theorem getD_ext : ∀ (a b : List Nat), a.length = b.length → (∀ i, i < a.length → a.getD i 0 = b.getD i 0) → a = b := by
  intro a
  induction a with
  | nil =>
    intro b h _
    exact (List.length_eq_zero_iff.mp h.symm).symm
  | cons x t ih =>
    intro b h g
    match b, h, g with
    | [], h, _ => exact absurd h (by rw [List.length_cons]; exact Nat.succ_ne_zero _)
    | y :: u, h, g =>
      have h0 : x = y := g 0 (Nat.succ_pos _)
      have ht : t = u := ih u (Nat.succ.inj h) (fun i hi => g (i + 1) (Nat.succ_lt_succ hi))
      rw [h0, ht]
theorem getD_m (pre : List Nat) (q : Nat) : (pre ++ [q]).getD pre.length 0 = q := by
  induction pre with
  | nil => rfl
  | cons x t ih => exact ih
theorem len_1 (pre : List Nat) (q : Nat) : (pre ++ [q]).length = pre.length + 1 := by rw [List.length_append, List.length_singleton]
section ENU
variable {ok : List Nat → Bool} {n : Nat}
theorem elS_mem : ∀ d pre l, l ∈ elS ok n d pre → ok l = true ∧ l.length = pre.length + d ∧ ∀ i, i < pre.length → l.getD i 0 = pre.getD i 0 := by
  intro d
  induction d with
  | zero =>
    intro pre l h
    have h0 : l ∈ (if ok pre = true then [pre] else []) := h
    by_cases g : ok pre = true
    · rw [if_pos g, List.mem_singleton] at h0
      rw [h0]
      exact ⟨g, rfl, fun i _ => rfl⟩
    · rw [if_neg g] at h0
      exact absurd h0 List.not_mem_nil
  | succ d ih =>
    intro pre l h
    obtain ⟨q, h1, h2⟩ := mem_fmr.mp h
    obtain ⟨g1, g2, g3⟩ := ih (pre ++ [q]) l h2
    rw [len_1] at g2 g3
    exact ⟨g1, by omega, fun i hi => by rw [g3 i (by omega), getD_l _ _ hi]⟩
theorem elS_at {d : Nat} {pre l : List Nat} {q : Nat} (h : l ∈ elS ok n d (pre ++ [q])) : l.getD pre.length 0 = q := by
  have := (elS_mem d _ l h).2.2 pre.length (by rw [len_1]; omega)
  rw [this, getD_m]
theorem mem_elS : ∀ d pre l, ok l = true → l.length = pre.length + d → (∀ i, i < pre.length → l.getD i 0 = pre.getD i 0) → (∀ i, i < l.length → l.getD i 0 < n) → l ∈ elS ok n d pre := by
  intro d
  induction d with
  | zero =>
    intro pre l h1 h2 h3 _
    have e : l = pre := getD_ext l pre h2 (fun i hi => h3 i (by omega))
    show l ∈ (if ok pre = true then [pre] else [])
    rw [← e, if_pos h1]
    exact List.mem_singleton.mpr rfl
  | succ d ih =>
    intro pre l h1 h2 h3 h4
    refine mem_fmr.mpr ⟨l.getD pre.length 0, h4 _ (by omega), ih _ l h1 (by rw [len_1]; omega) (fun i hi => ?_) h4⟩
    rw [len_1] at hi
    by_cases e : i = pre.length
    · rw [e, getD_m]
    · rw [getD_l _ _ (by omega)]
      exact h3 i (by omega)
theorem elS_len (h8 : n ≤ 8) : ∀ d pre, (elS ok n d pre).length ≤ 8 ^ d := by
  intro d
  induction d with
  | zero =>
    intro pre
    show (if ok pre = true then [pre] else []).length ≤ 1
    split
    · exact Nat.le_refl 1
    · exact Nat.zero_le 1
  | succ d ih =>
    intro pre
    have h := fmr_len (f := fun q => elS ok n d (pre ++ [q])) (b := 8 ^ d) (fun q => ih _) n
    have e : (elS ok n (d + 1) pre).length ≤ n * 8 ^ d := h
    rw [Nat.pow_succ, Nat.mul_comm (8 ^ d) 8]
    exact Nat.le_trans e (Nat.mul_le_mul_right _ h8)
theorem elS_nil {d : Nat} {pre : List Nat} (h : ∀ l, ok l = true → l.length = pre.length + d → (∀ i, i < pre.length → l.getD i 0 = pre.getD i 0) → False) : elS ok n d pre = [] := List.eq_nil_iff_forall_not_mem.mpr fun l hl => by
  obtain ⟨g1, g2, g3⟩ := elS_mem d pre l hl
  exact h l g1 g2 g3
end ENU
def xl (l : List Nat) : Nat → Nat := fun i => l.getD i 0
def isoB (n m : Nat) (F G : Nat → Nat) (l : List Nat) : Bool := ((List.range n).all fun p => decide (xl l p < n) && (List.range n).all fun q => decide (xl l p = xl l q → p = q)) && (lsM (fun f => mpS n (xl l) (F f)) m).isPerm (lsM G m)
section ISB
variable {n m : Nat} {F G : Nat → Nat}
theorem isoB_t {l : List Nat} : isoB n m F G l = true ↔ IsoF n m F G (xl l) := by
  unfold isoB
  rw [Bool.and_eq_true, List.isPerm_iff, List.all_eq_true]
  constructor
  · rintro ⟨h1, h2⟩
    refine ⟨⟨fun p hp => ?_, fun p q hp hq e => ?_⟩, h2⟩
    · have := h1 p (List.mem_range.mpr hp)
      rw [Bool.and_eq_true, decide_eq_true_eq] at this
      exact this.1
    · have := h1 p (List.mem_range.mpr hp)
      rw [Bool.and_eq_true, List.all_eq_true] at this
      have h3 := this.2 q (List.mem_range.mpr hq)
      rw [decide_eq_true_eq] at h3
      exact h3 e
  · rintro ⟨h1, h2⟩
    refine ⟨fun p hp => ?_, h2⟩
    rw [Bool.and_eq_true, decide_eq_true_eq, List.all_eq_true]
    refine ⟨h1.1 p (List.mem_range.mp hp), fun q hq => ?_⟩
    rw [decide_eq_true_eq]
    exact h1.2 p q (List.mem_range.mp hp) (List.mem_range.mp hq)
theorem countP_lsM (P : Nat → Bool) (A : Nat → Nat) : ∀ m, (lsM A m).countP P = cnt (fun f => P (A f)) m := by
  intro m
  induction m with
  | zero => rfl
  | succ m ih =>
    have e : lsM A (m + 1) = lsM A m ++ [A m] := map_s A m
    rw [e, List.countP_append, ih, List.countP_singleton, cnt_s]
    split <;> rfl
theorem IsoF.often {x : Nat → Nat} (h : IsoF n m F G x) {p : Nat} (hp : p < n) : cnt (fun f => (F f).testBit p) m = cnt (fun f => (G f).testBit (x p)) m := by
  have h1 := List.Perm.countP_eq (fun s => s.testBit (x p)) h.2
  rw [countP_lsM, countP_lsM] at h1
  rw [← h1]
  refine cnt_congr fun f _ => Bool.eq_iff_iff.mpr ?_
  show (F f).testBit p = true ↔ (mpS n x (F f)).testBit (x p) = true
  rw [tb_mpS]
  constructor
  · intro g
    exact ⟨p, hp, g, rfl⟩
  · rintro ⟨q, h1, h2, h3⟩
    rw [← h.1.2 q p h1 hp h3]
    exact h2
end ISB
def orS (g : Nat) (T : List (List Nat)) : Nat := T.foldl (fun a l => a ||| 2 ^ l.getD g 0) 0
theorem orS_add (g : Nat) (T : List (List Nat)) (l : List Nat) : orS g (T ++ [l]) = orS g T ||| 2 ^ l.getD g 0 := by
  unfold orS
  rw [List.foldl_append]; rfl
def StC (n g : Nat) (T : List (List Nat)) (f i : Int32) (a : Nat → Int32) : Prop := f = nI T.length ∧ i = nI (orS g T) ∧ (T ≠ [] → ∀ k, k < n → a k = nI ((T.headD []).getD k 0))

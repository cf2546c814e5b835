/-! the parts of a set in their rising order; sums over lists -/
def nxt (g s : Nat) : Nat := (s + (256 - g)) &&& g
def sub (g k : Nat) : Nat := itn (fun _ s => nxt g s) 0 k
def SB (g : Nat) : List Nat := (List.range 256).filter fun s => Nat.beq (s &&& g) s
def lsn (g : Nat) : Nat → Nat → List Nat
  | 0, _ => []
  | k + 1, s => s :: lsn g k (nxt g s)
theorem lsn_SB : (List.range 256).all (fun g => decide (lsn g (2 ^ pc g) 0 = SB g)) = true := by decide +kernel
theorem pc_bits : (List.range 256).all (fun a => decide (fJ6_bitCount_0f7a4 (nI a) = some (nI (pc a)))) = true := by decide +kernel
theorem nxt_I : (List.range 256).all (fun g => (SB g).all fun s => decide ((nI s - nI g) &&& nI g = nI (nxt g s))) = true := by decide +kernel
theorem bitCount_pc {a : Nat} (h : a < 256) : fJ6_bitCount_0f7a4 (nI a) = some (nI (pc a)) := of_decide_eq_true (List.all_eq_true.mp pc_bits a (List.mem_range.mpr h))
theorem lsn_map (g : Nat) : ∀ k j, lsn g k (sub g j) = (List.range' j k).map (sub g) := by
  intro k
  induction k with
  | zero => intro j; rfl
  | succ k ih =>
    intro j
    show sub g j :: lsn g k (sub g (j + 1)) = _
    rw [ih (j + 1), List.range'_succ, List.map_cons]
theorem sub_map {g : Nat} (h : g < 256) : (List.range (2 ^ pc g)).map (sub g) = SB g := by
  rw [List.range_eq_range', ← lsn_map g _ 0]
  exact of_decide_eq_true (List.all_eq_true.mp lsn_SB g (List.mem_range.mpr h))
theorem SB_len {g : Nat} (h : g < 256) : (SB g).length = 2 ^ pc g := by
  rw [← sub_map h, List.length_map, List.length_range]
theorem sub_get {g k : Nat} (h : g < 256) (hk : k < 2 ^ pc g) : sub g k = (SB g).getD k 0 := by
  rw [← sub_map h, List.getD_eq_getElem?_getD, List.getElem?_map, List.getElem?_range hk]
  rfl
theorem mem_SB {g s : Nat} (h : g < 256) : s ∈ SB g ↔ Sb s g := by
  unfold SB
  rw [List.mem_filter, List.mem_range, beq_t]
  refine ⟨fun ⟨_, e⟩ i hi => ?_, fun q => ⟨Nat.lt_of_le_of_lt q.le h, Nat.eq_of_testBit_eq fun i => ?_⟩⟩
  · rw [← e, Nat.testBit_and, Bool.and_eq_true] at hi
    exact hi.2
  · rw [Nat.testBit_and]
    cases hs : s.testBit i
    · rfl
    · rw [q i hs]; rfl
theorem SB_nd (g : Nat) : (SB g).Nodup := List.Nodup.sublist List.filter_sublist List.nodup_range
theorem SB_pw (g : Nat) : (SB g).Pairwise (· < ·) := List.pairwise_lt_range.filter _
theorem sub_mem {g k : Nat} (h : g < 256) (hk : k < 2 ^ pc g) : sub g k ∈ SB g := by
  rw [sub_get h hk]
  exact getD_mem (by rw [SB_len h]; exact hk)
theorem sub_sb {g k : Nat} (h : g < 256) (hk : k < 2 ^ pc g) : Sb (sub g k) g := (mem_SB h).mp (sub_mem h hk)
theorem eX3_partAfter {g k : Nat} (h : g < 256) (hk : k < 2 ^ pc g) : fX3_partAfter (nI (sub g k)) (nI g) = some (nI (sub g (k + 1))) := by
  unfold fX3_partAfter
  rw [of_decide_eq_true (List.all_eq_true.mp (List.all_eq_true.mp nxt_I g (List.mem_range.mpr h)) (sub g k) (sub_mem h hk))]
  rfl
theorem pc_256 (g : Nat) : 2 ^ pc g ≤ 256 := p2_256 (pc_le g)
theorem eX3_partsOf {g : Nat} (h : g < 256) : fX3_partsOf (nI g) = some (nI (2 ^ pc g)) := by
  unfold fX3_partsOf
  have := pc_le g
  rw [bd_s (bitCount_pc h), p_shl1 (by omega)]
theorem itn_list {α : Type} (h : Nat → α → α) (L : List Nat) : ∀ (a : α) (k : Nat), k ≤ L.length → itn (fun k x => h (L.getD k 0) x) a k = (L.take k).foldl (fun x s => h s x) a := by
  intro a k
  induction k with
  | zero => intro _; rfl
  | succ k ih =>
    intro hk
    have e : L.getD k 0 = L[k]'(by omega) := by rw [List.getD_eq_getElem?_getD, List.getElem?_eq_getElem (by omega)]; rfl
    show h (L.getD k 0) (itn _ a k) = _
    rw [ih (by omega), List.take_succ_eq_append_getElem (by omega), List.foldl_append, e]
    rfl
theorem itn_congr {α : Type} {f g : Nat → α → α} {a : α} : ∀ k, (∀ t x, t < k → f t x = g t x) → itn f a k = itn g a k := by
  intro k
  induction k with
  | zero => intro _; rfl
  | succ k ih =>
    intro h
    show f k (itn f a k) = g k (itn g a k)
    rw [ih (fun t x ht => h t x (by omega)), h k _ (by omega)]
theorem cnt_sub {g : Nat} (h : g < 256) (P : Nat → Bool) : cnt (fun k => P (sub g k)) (2 ^ pc g) = (SB g).countP P := by
  rw [← cnt_list P (SB g), SB_len h]
  exact cnt_congr fun t ht => by rw [sub_get h ht]
def lsum (l : List Nat) (v : Nat → Int32) : Int32 := l.foldr (fun t x => v t + x) 0
theorem lsum_cons (a : Nat) (l : List Nat) (v : Nat → Int32) : lsum (a :: l) v = v a + lsum l v := rfl
theorem lsum_append (l k : List Nat) (v : Nat → Int32) : lsum (l ++ k) v = lsum l v + lsum k v := by
  induction l with
  | nil => rw [List.nil_append]; exact (Int32.zero_add _).symm
  | cons a l ih => rw [List.cons_append, lsum_cons, lsum_cons, ih, Int32.add_assoc]
theorem lsum_one (a : Nat) (v : Nat → Int32) : lsum [a] v = v a := Int32.add_zero _
theorem lsum_perm {l k : List Nat} (h : l.Perm k) (v : Nat → Int32) : lsum l v = lsum k v := by
  induction h with
  | nil => rfl
  | cons a _ ih => rw [lsum_cons, lsum_cons, ih]
  | swap a b l => rw [lsum_cons, lsum_cons, lsum_cons, lsum_cons, ← Int32.add_assoc, ← Int32.add_assoc, Int32.add_comm (v b)]
  | trans _ _ h1 h2 => exact h1.trans h2
theorem lsum_congr {l : List Nat} {v w : Nat → Int32} (h : ∀ t, t ∈ l → v t = w t) : lsum l v = lsum l w := by
  induction l with
  | nil => rfl
  | cons a l ih => rw [lsum_cons, lsum_cons, h a List.mem_cons_self, ih fun t ht => h t (List.mem_cons_of_mem a ht)]
theorem lsum_0 (l : List Nat) : lsum l (fun _ => 0) = 0 := by
  induction l with
  | nil => rfl
  | cons a l ih => rw [lsum_cons, ih]; rfl
theorem add4 (a b c d : Int32) : (a + b) + (c + d) = (a + c) + (b + d) := by
  rw [Int32.add_assoc, Int32.add_assoc, ← Int32.add_assoc b c d, Int32.add_comm b c, Int32.add_assoc c b d]
theorem lsum_add (l : List Nat) (v w : Nat → Int32) : lsum l (fun t => v t + w t) = lsum l v + lsum l w := by
  induction l with
  | nil => rfl
  | cons a l ih => rw [lsum_cons, lsum_cons, lsum_cons, ih, add4]
theorem lsum_comm (l k : List Nat) (v : Nat → Nat → Int32) : lsum l (fun a => lsum k (fun b => v a b)) = lsum k (fun b => lsum l (fun a => v a b)) := by
  induction l with
  | nil => exact (lsum_0 k).symm
  | cons a l ih =>
    rw [lsum_cons, ih, ← lsum_add]
    rfl
theorem lsum_filter (l : List Nat) (P : Nat → Bool) (v : Nat → Int32) : lsum (l.filter P) v = lsum l (fun t => if P t = true then v t else 0) := by
  induction l with
  | nil => rfl
  | cons a l ih =>
    rw [lsum_cons, List.filter_cons]
    by_cases h : P a = true
    · rw [if_pos h, if_pos h, lsum_cons, ih]
    · rw [if_neg h, if_neg h, ih, Int32.zero_add]
theorem lsum_map (l : List Nat) (f : Nat → Nat) (v : Nat → Int32) : lsum (l.map f) v = lsum l (fun t => v (f t)) := by
  induction l with
  | nil => rfl
  | cons a l ih => rw [List.map_cons, lsum_cons, lsum_cons, ih]
theorem lsum_at {l : List Nat} (hd : l.Nodup) {a : Nat} (ha : a ∈ l) (x : Int32) : lsum l (fun t => if t = a then x else 0) = x := by
  induction l with
  | nil => exact absurd ha List.not_mem_nil
  | cons b l ih =>
    rw [lsum_cons]
    rw [List.nodup_cons] at hd
    by_cases e : b = a
    · subst e
      have e0 : lsum l (fun t => if t = b then x else 0) = lsum l (fun _ => 0) := lsum_congr fun t ht => if_neg fun z => hd.1 (by rw [← z]; exact ht)
      rw [if_pos rfl, e0, lsum_0, Int32.add_zero]
    · rw [if_neg e, Int32.zero_add]
      exact ih hd.2 (by rcases List.mem_cons.mp ha with z | z; exact absurd z.symm e; exact z)
theorem lsum_range (v : Nat → Int32) (k : Nat) : lsum (List.range (k + 1)) v = lsum (List.range k) v + v k := by
  rw [List.range_succ, lsum_append, lsum_one]
/-- Int32 sums over the t < k with P, as loops make them -/
theorem itn_lsum (P : Nat → Bool) (v : Nat → Int32) (a : Int32) (k : Nat) : itn (fun t x => if P t = true then x + v t else x) a k = a + lsum ((List.range k).filter P) v := by
  induction k with
  | zero => exact (Int32.add_zero a).symm
  | succ k ih =>
    show (if P k = true then itn _ a k + v k else itn _ a k) = _
    rw [ih, List.range_succ, List.filter_append, lsum_append, ← Int32.add_assoc]
    by_cases h : P k = true
    · rw [if_pos h, List.filter_cons, if_pos h, List.filter_nil, lsum_one]
    · rw [if_neg h, List.filter_cons, if_neg h, List.filter_nil]
      exact (Int32.add_zero _).symm
def sgn (k : Nat) : Int32 := if k % 2 = 0 then 1 else -1
theorem sgn_SB : (List.range 256).all (fun g => decide (lsum (SB g) (fun s => sgn (pc s)) = if g = 0 then 1 else 0)) = true := by decide +kernel
theorem sum_sgn {g : Nat} (h : g < 256) : lsum (SB g) (fun s => sgn (pc s)) = if g = 0 then 1 else 0 := of_decide_eq_true (List.all_eq_true.mp sgn_SB g (List.mem_range.mpr h))
theorem eX3_signOf {k : Nat} (h : k < 2147483648) : fX3_signOf (nI k) = some (sgn k) := by
  unfold fX3_signOf sgn
  show (if nI k &&& nI 1 = 0 then _ else _) = _
  rw [p_and, ifq0 (Nat.lt_of_le_of_lt Nat.and_le_left h), Nat.and_one_is_mod]
  by_cases g : k % 2 = 0
  · rw [if_pos g, if_pos g]
  · rw [if_neg g, if_neg g]

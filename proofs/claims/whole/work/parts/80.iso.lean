/-! isomorphisms: images of sets, permutations, composition, inverses -/
def mpS (n : Nat) (x : Nat → Nat) (s : Nat) : Nat := itn (fun p a => if s.testBit p = true then a ||| 2 ^ x p else a) 0 n
def trS (o : Nat → Nat) (k s : Nat) : Nat := nbs (fun _ i => s.testBit (o i)) k 0
def lsM (A : Nat → Nat) (m : Nat) : List Nat := (List.range m).map A
def IjN (n : Nat) (x : Nat → Nat) : Prop := (∀ p, p < n → x p < n) ∧ ∀ p q, p < n → q < n → x p = x q → p = q
def IsoF (n m : Nat) (F G : Nat → Nat) (x : Nat → Nat) : Prop := IjN n x ∧ (lsM (fun f => mpS n x (F f)) m).Perm (lsM G m)
theorem tb_ext {a b : Nat} (h : ∀ i, a.testBit i = true ↔ b.testBit i = true) : a = b := Nat.eq_of_testBit_eq fun i => Bool.eq_iff_iff.mpr (h i)
theorem mpS_s (n : Nat) (x : Nat → Nat) (s : Nat) : mpS (n + 1) x s = if s.testBit n = true then mpS n x s ||| 2 ^ x n else mpS n x s := rfl
theorem tb_mpS (x : Nat → Nat) (s q : Nat) : ∀ n, (mpS n x s).testBit q = true ↔ ∃ p, p < n ∧ s.testBit p = true ∧ x p = q := by
  intro n
  induction n with
  | zero =>
    constructor
    · intro h
      have h0 : Nat.testBit 0 q = true := h
      rw [Nat.zero_testBit] at h0
      exact absurd h0 Bool.false_ne_true
    · rintro ⟨p, h, _⟩
      exact absurd h (Nat.not_lt_zero p)
  | succ n ih =>
    rw [mpS_s]
    by_cases b : s.testBit n = true
    · rw [if_pos b, Nat.testBit_or, Bool.or_eq_true, ih, Nat.testBit_two_pow, decide_eq_true_eq]
      constructor
      · rintro (⟨p, h1, h2⟩ | h)
        · exact ⟨p, by omega, h2⟩
        · exact ⟨n, by omega, b, h⟩
      · rintro ⟨p, h1, h2, h3⟩
        by_cases g : p = n
        · exact Or.inr (by rw [← g]; exact h3)
        · exact Or.inl ⟨p, by omega, h2, h3⟩
    · rw [if_neg b, ih]
      constructor
      · rintro ⟨p, h1, h2⟩
        exact ⟨p, by omega, h2⟩
      · rintro ⟨p, h1, h2, h3⟩
        by_cases g : p = n
        · rw [g] at h2
          exact absurd h2 b
        · exact ⟨p, by omega, h2, h3⟩
theorem mpS_lt {x : Nat → Nat} {s k : Nat} : ∀ n, (∀ p, p < n → x p < k) → mpS n x s < 2 ^ k := by
  intro n
  induction n with
  | zero => intro _; exact p2_pos k
  | succ n ih =>
    intro h
    have h1 := ih fun p hp => h p (by omega)
    rw [mpS_s]
    split
    · exact or_p2 h1 (h n (by omega))
    · exact h1
theorem mpS_congr {x y : Nat → Nat} {s : Nat} {n : Nat} (h : ∀ p, p < n → x p = y p) : mpS n x s = mpS n y s := tb_ext fun q => by
  rw [tb_mpS, tb_mpS]
  constructor
  · rintro ⟨p, h1, h2, h3⟩
    exact ⟨p, h1, h2, by rw [← h p h1]; exact h3⟩
  · rintro ⟨p, h1, h2, h3⟩
    exact ⟨p, h1, h2, by rw [h p h1]; exact h3⟩
theorem mpS_comp {x y : Nat → Nat} {s n : Nat} (h : ∀ p, p < n → y p < n) : mpS n x (mpS n y s) = mpS n (fun p => x (y p)) s := tb_ext fun q => by
  rw [tb_mpS, tb_mpS]
  constructor
  · rintro ⟨p, h1, h2, h3⟩
    obtain ⟨t, g1, g2, g3⟩ := (tb_mpS y s p n).mp h2
    exact ⟨t, g1, g2, by rw [g3]; exact h3⟩
  · rintro ⟨p, h1, h2, h3⟩
    exact ⟨y p, h p h1, (tb_mpS y s (y p) n).mpr ⟨p, h1, h2, rfl⟩, h3⟩
theorem tb_small {s n q : Nat} (h : s < 2 ^ n) (g : s.testBit q = true) : q < n := by
  refine Nat.lt_of_not_le fun e => ?_
  rw [Nat.testBit_lt_two_pow (Nat.lt_of_lt_of_le h (Nat.pow_le_pow_right (by decide) e))] at g
  exact Bool.false_ne_true g
theorem mpS_id {s n : Nat} {x : Nat → Nat} (h : s < 2 ^ n) (hx : ∀ p, p < n → x p = p) : mpS n x s = s := tb_ext fun q => by
  rw [tb_mpS]
  constructor
  · rintro ⟨p, h1, h2, h3⟩
    rw [hx p h1] at h3
    rw [← h3]; exact h2
  · intro g
    have := tb_small h g
    exact ⟨q, this, g, hx q this⟩
theorem nd_le {α : Type} [DecidableEq α] : ∀ (l M : List α), l.Nodup → (∀ a, a ∈ l → a ∈ M) → l.length ≤ M.length := by
  intro l
  induction l with
  | nil => intro M _ _; exact Nat.zero_le _
  | cons a t ih =>
    intro M h g
    have h' := List.nodup_cons.mp h
    have ha := g a List.mem_cons_self
    have h1 := ih (M.erase a) h'.2 (fun b hb => (List.mem_erase_of_ne (fun e : b = a => h'.1 (by rw [← e]; exact hb))).mpr (g b (List.mem_cons_of_mem a hb)))
    rw [List.length_erase_of_mem ha] at h1
    have h2 := List.length_pos_of_mem ha
    rw [List.length_cons]
    omega
theorem map_nd {α : Type} {x : Nat → α} {n : Nat} (h : ∀ p q, p < n → q < n → x p = x q → p = q) : ((List.range n).map x).Nodup := by
  refine List.pairwise_map.mpr ?_
  refine List.Pairwise.imp_of_mem (fun {a b} ha hb hab => ?_) (List.nodup_range (n := n))
  exact fun e => hab (h a b (List.mem_range.mp ha) (List.mem_range.mp hb) e)
theorem IjN.surj {n : Nat} {x : Nat → Nat} (h : IjN n x) {q : Nat} (hq : q < n) : ∃ p, p < n ∧ x p = q := by
  refine Classical.byContradiction fun hn => ?_
  have hnd : (q :: (List.range n).map x).Nodup := List.nodup_cons.mpr ⟨fun hm => by
    obtain ⟨p, hp, e⟩ := List.mem_map.mp hm
    exact hn ⟨p, List.mem_range.mp hp, e⟩, map_nd h.2⟩
  have h1 := nd_le _ (List.range n) hnd (fun a ha => by
    rcases List.mem_cons.mp ha with e | e
    · rw [e]; exact List.mem_range.mpr hq
    · obtain ⟨p, hp, e⟩ := List.mem_map.mp e
      rw [← e]
      exact List.mem_range.mpr (h.1 p (List.mem_range.mp hp)))
  rw [List.length_cons, List.length_map, List.length_range] at h1
  omega
def ivS (x : Nat → Nat) (q n : Nat) : Nat := itn (fun p a => if x p = q then p else a) 0 n
theorem ivS_s {x : Nat → Nat} {q : Nat} : ∀ n, (∃ p, p < n ∧ x p = q) → ivS x q n < n ∧ x (ivS x q n) = q := by
  intro n
  induction n with
  | zero => rintro ⟨p, h, _⟩; exact absurd h (Nat.not_lt_zero p)
  | succ n ih =>
    rintro ⟨p, h1, h2⟩
    have e : ivS x q (n + 1) = if x n = q then n else ivS x q n := rfl
    rw [e]
    by_cases g : x n = q
    · rw [if_pos g]; exact ⟨by omega, g⟩
    · rw [if_neg g]
      have hp : ¬ p = n := fun z => g (by rw [← z]; exact h2)
      have := ih ⟨p, by omega, h2⟩
      exact ⟨by omega, this.2⟩
theorem IjN.inv {n : Nat} {x : Nat → Nat} (h : IjN n x) : IjN n (fun q => ivS x q n) ∧ ∀ p, p < n → ivS x (x p) n = p := by
  have key : ∀ q, q < n → ivS x q n < n ∧ x (ivS x q n) = q := fun q hq => ivS_s n (h.surj hq)
  refine ⟨⟨fun p hp => (key p hp).1, fun p q hp hq e => ?_⟩, fun p hp => ?_⟩
  · dsimp only at e
    rw [← (key p hp).2, ← (key q hq).2, e]
  · exact h.2 _ _ (key _ (h.1 p hp)).1 hp (key _ (h.1 p hp)).2
theorem lsM_congr {A C : Nat → Nat} {m : Nat} (h : ∀ f, f < m → A f = C f) : lsM A m = lsM C m := List.map_congr_left fun f hf => h f (List.mem_range.mp hf)
theorem lsM_map (g A : Nat → Nat) (m : Nat) : (lsM A m).map g = lsM (fun f => g (A f)) m := by
  unfold lsM
  rw [List.map_map]; rfl
theorem IsoF.congr {n m : Nat} {F G x y : Nat → Nat} (h : ∀ p, p < n → x p = y p) (g : IsoF n m F G x) : IsoF n m F G y := by
  refine ⟨⟨fun p hp => by rw [← h p hp]; exact g.1.1 p hp, fun p q hp hq e => g.1.2 p q hp hq (by rw [h p hp, h q hq]; exact e)⟩, ?_⟩
  rw [lsM_congr (C := fun f => mpS n x (F f)) fun f _ => mpS_congr fun p hp => (h p hp).symm]
  exact g.2
theorem IsoF.comp {n m : Nat} {F G K x y : Nat → Nat} (hx : IsoF n m G K x) (hy : IsoF n m F G y) : IsoF n m F K (fun p => x (y p)) := by
  refine ⟨⟨fun p hp => hx.1.1 _ (hy.1.1 p hp), fun p q hp hq e => hy.1.2 p q hp hq (hx.1.2 _ _ (hy.1.1 p hp) (hy.1.1 q hq) e)⟩, ?_⟩
  rw [lsM_congr (C := fun f => mpS n x (mpS n y (F f))) fun f _ => (mpS_comp hy.1.1).symm]
  have h1 := hy.2.map (mpS n x)
  rw [lsM_map, lsM_map] at h1
  exact h1.trans hx.2
theorem IsoF.id {n m : Nat} {F x : Nat → Nat} (hF : ∀ f, f < m → F f < 2 ^ n) (h : ∀ p, p < n → x p = p) : IsoF n m F F x := by
  refine ⟨⟨fun p hp => by rw [h p hp]; exact hp, fun p q hp hq e => by rw [h p hp, h q hq] at e; exact e⟩, ?_⟩
  rw [lsM_congr (C := F) fun f hf => mpS_id (hF f hf) h]
theorem IsoF.inv {n m : Nat} {F G x : Nat → Nat} (hF : ∀ f, f < m → F f < 2 ^ n) (h : IsoF n m F G x) : IsoF n m G F (fun q => ivS x q n) := by
  obtain ⟨h1, h2⟩ := h.1.inv
  refine ⟨h1, ?_⟩
  have h3 := (h.2.map (mpS n (fun q => ivS x q n))).symm
  rw [lsM_map, lsM_map, lsM_congr (C := F) (A := fun f => mpS n (fun q => ivS x q n) (mpS n x (F f))) fun f hf => by
    rw [mpS_comp h.1.1]
    exact mpS_id (hF f hf) h2] at h3
  exact h3

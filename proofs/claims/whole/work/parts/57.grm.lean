/-! neighbours and distances as mathematics -/
/-- the nodes next to one -/
def nbs (A : Nat → Nat → Bool) (N p : Nat) : Nat := itn (fun q s => if A p q = true then s ||| 2 ^ q else s) 0 N
theorem tb_nbs (A : Nat → Nat → Bool) (N p i : Nat) : (nbs A N p).testBit i = (decide (i < N) && A p i) := by
  unfold nbs
  induction N with
  | zero => rw [show itn (fun q s => if A p q = true then s ||| 2 ^ q else s) 0 0 = 0 from rfl, Nat.zero_testBit]; rfl
  | succ N ih =>
    show (if A p N = true then _ else _ : Nat).testBit i = _
    by_cases g : A p N = true
    · rw [if_pos g, Nat.testBit_or, ih, Nat.testBit_two_pow]
      by_cases e : N = i
      · subst e; simp [g]
      · have e2 : (i < N + 1) = (i < N) := propext ⟨fun _ => by omega, fun _ => by omega⟩
        simp [e, e2]
    · rw [if_neg g, ih]
      by_cases e : N = i
      · subst e; simp [g]
      · have e2 : (i < N + 1) = (i < N) := propext ⟨fun _ => by omega, fun _ => by omega⟩
        simp [e2]
theorem nbs_lt (A : Nat → Nat → Bool) (N p : Nat) : nbs A N p < 2 ^ N := lt_of_tb fun i h => by
  rw [tb_nbs, Bool.and_eq_true, decide_eq_true_eq] at h
  exact h.1
theorem nbs_ext {A : Nat → Nat → Bool} {N p x : Nat} (h : ∀ i, x.testBit i = true ↔ i < N ∧ A p i = true) : x = nbs A N p := Nat.eq_of_testBit_eq fun i => by
  rw [tb_nbs]
  by_cases g : i < N ∧ A p i = true
  · rw [(h i).mpr g, decide_eq_true g.1, g.2]; rfl
  · cases hx : x.testBit i
    · by_cases q : i < N
      · have : A p i = false := by
          cases hA : A p i
          · rfl
          · exact absurd ⟨q, hA⟩ g
        rw [this, Bool.and_false]
      · rw [decide_eq_false q]; rfl
    · exact absurd ((h i).mp hx) g
/-- the nodes next to any of a set -/
def nany (A : Nat → Nat → Bool) (N s : Nat) : Nat := itn (fun q x => if s.testBit q = true then x ||| nbs A N q else x) 0 N
theorem tb_nany (A : Nat → Nat → Bool) (N s j : Nat) : (nany A N s).testBit j = true ↔ ∃ i, i < N ∧ s.testBit i = true ∧ j < N ∧ A i j = true := by
  have h : ∀ k, (itn (fun q x => if s.testBit q = true then x ||| nbs A N q else x) 0 k).testBit j = true ↔ ∃ i, i < k ∧ s.testBit i = true ∧ j < N ∧ A i j = true := by
    intro k
    induction k with
    | zero =>
      rw [show itn (fun q x => if s.testBit q = true then x ||| nbs A N q else x) 0 0 = 0 from rfl, Nat.zero_testBit]
      exact ⟨fun h => (by cases h), fun ⟨i, h, _⟩ => absurd h (Nat.not_lt_zero i)⟩
    | succ k ih =>
      show (if s.testBit k = true then _ else _ : Nat).testBit j = true ↔ _
      by_cases g : s.testBit k = true
      · rw [if_pos g, Nat.testBit_or, Bool.or_eq_true, ih, tb_nbs, Bool.and_eq_true, decide_eq_true_eq]
        constructor
        · rintro (⟨i, a, b⟩ | h)
          · exact ⟨i, by omega, b⟩
          · exact ⟨k, by omega, g, h⟩
        · rintro ⟨i, a, b, c⟩
          by_cases e : i = k
          · subst e; exact Or.inr c
          · exact Or.inl ⟨i, by omega, b, c⟩
      · rw [if_neg g, ih]
        constructor
        · rintro ⟨i, a, b⟩
          exact ⟨i, by omega, b⟩
        · rintro ⟨i, a, b, c⟩
          by_cases e : i = k
          · subst e; exact absurd b g
          · exact ⟨i, by omega, b, c⟩
  exact h N
/-- the nodes reached from a in k steps at most -/
def re (A : Nat → Nat → Bool) (N a k : Nat) : Nat := itn (fun _ s => s ||| nany A N s) (2 ^ a) k
def RE (A : Nat → Nat → Bool) (N a k j : Nat) : Prop := (re A N a k).testBit j = true
section GM
variable {A : Nat → Nat → Bool} {N : Nat}
theorem re_0 {a j : Nat} : RE A N a 0 j ↔ j = a := by
  show (2 ^ a).testBit j = true ↔ _
  rw [Nat.testBit_two_pow, decide_eq_true_eq]
  exact ⟨fun h => h.symm, fun h => h.symm⟩
theorem re_s {a k j : Nat} : RE A N a (k + 1) j ↔ RE A N a k j ∨ ∃ i, i < N ∧ RE A N a k i ∧ j < N ∧ A i j = true := by
  show (re A N a k ||| nany A N (re A N a k)).testBit j = true ↔ _
  rw [Nat.testBit_or, Bool.or_eq_true, tb_nany]
  rfl
theorem re_lt {a : Nat} (ha : a < N) : ∀ k j, RE A N a k j → j < N := by
  intro k
  induction k with
  | zero => intro j h; rw [re_0.mp h]; exact ha
  | succ k ih =>
    intro j h
    rcases re_s.mp h with h | ⟨i, _, _, h, _⟩
    · exact ih j h
    · exact h
theorem re_nlt {a : Nat} (ha : a < N) (k : Nat) : re A N a k < 2 ^ N := lt_of_tb fun j h => re_lt ha k j h
theorem re_mono {a k l j : Nat} (h : k ≤ l) (g : RE A N a k j) : RE A N a l j := by
  induction l with
  | zero => rw [show k = 0 by omega] at g; exact g
  | succ l ih =>
    by_cases e : k = l + 1
    · rw [← e]; exact g
    · exact re_s.mpr (Or.inl (ih (by omega)))
def SS (A : Nat → Nat → Bool) (i j : Nat) : Prop := i = j ∨ A i j = true
theorem re_b {a k b : Nat} (ha : a < N) (hb : b < N) : RE A N a (k + 1) b ↔ ∃ i, i < N ∧ RE A N a k i ∧ SS A i b := by
  rw [re_s]
  constructor
  · rintro (h | ⟨i, h1, h2, h3, h4⟩)
    · exact ⟨b, hb, h, Or.inl rfl⟩
    · exact ⟨i, h1, h2, Or.inr h4⟩
  · rintro ⟨i, h1, h2, h3 | h3⟩
    · subst h3; exact Or.inl h2
    · exact Or.inr ⟨i, h1, h2, hb, h3⟩
theorem re_f {a : Nat} (ha : a < N) : ∀ k b, b < N → (RE A N a (k + 1) b ↔ ∃ i, i < N ∧ SS A a i ∧ RE A N i k b) := by
  intro k
  induction k with
  | zero =>
    intro b hb
    rw [re_b ha hb]
    constructor
    · rintro ⟨i, h1, h2, h3⟩
      rw [re_0.mp h2] at h3
      exact ⟨b, hb, h3, re_0.mpr rfl⟩
    · rintro ⟨i, h1, h2, h3⟩
      rw [← re_0.mp h3] at h2
      exact ⟨a, ha, re_0.mpr rfl, h2⟩
  | succ k ih =>
    intro b hb
    rw [re_b ha hb]
    constructor
    · rintro ⟨j, h1, h2, h3⟩
      obtain ⟨i, g1, g2, g3⟩ := (ih j h1).mp h2
      exact ⟨i, g1, g2, (re_b g1 hb).mpr ⟨j, h1, g3, h3⟩⟩
    · rintro ⟨i, g1, g2, g3⟩
      obtain ⟨j, h1, h2, h3⟩ := (re_b g1 hb).mp g3
      exact ⟨j, h1, (ih j h1).mpr ⟨i, g1, g2, h2⟩, h3⟩
theorem re_sym (hs : ∀ i j, A i j = true → A j i = true) : ∀ k a b, a < N → b < N → RE A N a k b → RE A N b k a := by
  intro k
  induction k with
  | zero => intro a b _ _ h; rw [re_0.mp h]; exact re_0.mpr rfl
  | succ k ih =>
    intro a b ha hb h
    obtain ⟨i, h1, h2, h3⟩ := (re_b ha hb).mp h
    refine (re_f hb k a ha).mpr ⟨i, h1, ?_, ih a i ha h1 h2⟩
    rcases h3 with h3 | h3
    · exact Or.inl h3.symm
    · exact Or.inr (hs _ _ h3)
/-- j is e steps away from a -/
def LX (A : Nat → Nat → Bool) (N a e j : Nat) : Prop := RE A N a e j ∧ ∀ d, d < e → ¬ RE A N a d j
theorem lx_u {a d e j : Nat} (h : LX A N a d j) (g : LX A N a e j) : d = e := by
  rcases Nat.lt_trichotomy d e with q | q | q
  · exact absurd h.1 (g.2 d q)
  · exact q
  · exact absurd g.1 (h.2 e q)
theorem lx_ex {a : Nat} : ∀ k j, RE A N a k j → ∃ e, e ≤ k ∧ LX A N a e j := by
  intro k
  induction k with
  | zero => intro j h; exact ⟨0, Nat.le_refl 0, h, fun d hd => absurd hd (Nat.not_lt_zero d)⟩
  | succ k ih =>
    intro j h
    by_cases g : RE A N a k j
    · obtain ⟨e, h1, h2⟩ := ih j g
      exact ⟨e, by omega, h2⟩
    · exact ⟨k + 1, Nat.le_refl _, h, fun d hd z => g (re_mono (by omega) z)⟩
/-- one step before -/
theorem lx_p {a e j : Nat} (h : LX A N a (e + 1) j) : ∃ i, i < N ∧ LX A N a e i ∧ j < N ∧ A i j = true := by
  rcases re_s.mp h.1 with g | ⟨i, h1, h2, h3, h4⟩
  · exact absurd g (h.2 e (by omega))
  · refine ⟨i, h1, ⟨h2, fun d hd z => ?_⟩, h3, h4⟩
    exact h.2 (d + 1) (by omega) (re_s.mpr (Or.inr ⟨i, h1, z, h3, h4⟩))
theorem lx_len {a : Nat} (ha : a < N) : ∀ e j, LX A N a e j → ∃ l : List Nat, l.length = e + 1 ∧ l.Nodup ∧ ∀ x, x ∈ l → x < N ∧ RE A N a e x := by
  intro e
  induction e with
  | zero =>
    intro j h
    refine ⟨[j], rfl, List.nodup_cons.mpr ⟨List.not_mem_nil, List.nodup_nil⟩, fun x hx => ?_⟩
    rw [List.mem_singleton] at hx
    subst hx
    exact ⟨re_lt ha 0 x h.1, h.1⟩
  | succ e ih =>
    intro j h
    obtain ⟨i, h1, h2, h3, h4⟩ := lx_p h
    obtain ⟨l, l1, l2, l3⟩ := ih i h2
    refine ⟨j :: l, by rw [List.length_cons, l1], List.nodup_cons.mpr ⟨fun z => h.2 e (by omega) (l3 j z).2, l2⟩, fun x hx => ?_⟩
    rcases List.mem_cons.mp hx with q | q
    · subst q; exact ⟨h3, h.1⟩
    · exact ⟨(l3 x q).1, re_mono (by omega) (l3 x q).2⟩
theorem lx_N {a e j : Nat} (ha : a < N) (h : LX A N a e j) : e < N := by
  obtain ⟨l, l1, l2, l3⟩ := lx_len ha e j h
  have := List.Nodup.length_le_of_subset l2 (l₂ := List.range N) (fun x hx => List.mem_range.mpr (l3 x hx).1)
  rw [List.length_range, l1] at this
  omega
/-- the answer for a distance -/
def DV (A : Nat → Nat → Bool) (N a b : Nat) (v : Int32) : Prop := (∃ d, d < N ∧ LX A N a d b ∧ v = nI d) ∨ (v = -1 ∧ ∀ d, ¬ RE A N a d b)
theorem dv_u {a b : Nat} {v w : Int32} (h : DV A N a b v) (g : DV A N a b w) : v = w := by
  rcases h with ⟨d, h1, h2, h3⟩ | ⟨h1, h2⟩ <;> rcases g with ⟨e, g1, g2, g3⟩ | ⟨g1, g2⟩
  · rw [h3, g3, lx_u h2 g2]
  · exact absurd h2.1 (g2 d)
  · exact absurd g2.1 (h2 e)
  · rw [h1, g1]
theorem lx_sym (hs : ∀ i j, A i j = true → A j i = true) {a b d : Nat} (ha : a < N) (hb : b < N) (h : LX A N a d b) : LX A N b d a := ⟨re_sym hs d a b ha hb h.1, fun e he z => h.2 e he (re_sym hs e b a hb ha z)⟩
theorem dv_sym (hs : ∀ i j, A i j = true → A j i = true) {a b : Nat} {v : Int32} (ha : a < N) (hb : b < N) (h : DV A N a b v) : DV A N b a v := by
  rcases h with ⟨d, h1, h2, h3⟩ | ⟨h1, h2⟩
  · exact Or.inl ⟨d, h1, lx_sym hs ha hb h2, h3⟩
  · exact Or.inr ⟨h1, fun d z => h2 d (re_sym hs d b a hb ha z)⟩
theorem dv_none {a b : Nat} (ha : a < N) (h : ∀ d, d < N → ¬ RE A N a d b) (d : Nat) : ¬ RE A N a d b := fun z => by
  obtain ⟨e, h1, h2⟩ := lx_ex d b z
  exact h e (lx_N ha h2) h2.1
end GM

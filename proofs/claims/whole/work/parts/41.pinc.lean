/-! the class's incidences, as numbers: n points, m facets, facet f the set F f -/
theorem ck_tt {α : Type} (x : Option α) : ck true x = x := rfl
theorem dif_le (a b : Nat) : dif a b ≤ a := Nat.le_of_testBit fun i h => by
  rw [tb_dif] at h
  exact (Bool.and_eq_true _ _ ▸ h).1
theorem dif_lt {a b c : Nat} (h : a < c) : dif a b < c := Nat.lt_of_le_of_lt (dif_le a b) h
theorem dif0 {a b : Nat} : dif a b = 0 ↔ ∀ i, a.testBit i = true → b.testBit i = true := by
  constructor
  · intro h i ha
    have h2 : (dif a b).testBit i = false := by rw [h, Nat.zero_testBit]
    rw [tb_dif, ha] at h2
    cases hb : b.testBit i
    · rw [hb] at h2; cases h2
    · rfl
  · intro h
    refine Nat.eq_of_testBit_eq fun i => ?_
    rw [tb_dif, Nat.zero_testBit]
    cases ha : a.testBit i
    · rfl
    · rw [h i ha]; rfl
theorem p2_lt {n k : Nat} (h : n ≤ k) : 2 ^ n ≤ 2 ^ k := Nat.pow_le_pow_right (by decide) h
theorem p2_256 {n : Nat} (h : n ≤ 8) : 2 ^ n ≤ 256 := p2_lt h
theorem p2_pos (n : Nat) : 0 < 2 ^ n := Nat.two_pow_pos n
def up1 (F : Nat → Nat) (k x : Nat) : Nat → Nat := fun j => if j = k then x else F j
theorem up1_at (F : Nat → Nat) (k x : Nat) : up1 F k x k = x := by simp [up1]
theorem up1_ne (F : Nat → Nat) {k j : Nat} (x : Nat) (h : j ≠ k) : up1 F k x j = F j := by simp [up1, h]
def IncR (n m : Nat) (F : Nat → Nat) (x : OX2) : Prop := q2_points x = nI n ∧ q2_facets x = nI m ∧ ∀ f, f < m → q2_sets x f = nI (F f)
def IncV (n m : Nat) (F : Nat → Nat) : Prop := 1 ≤ n ∧ n ≤ 8 ∧ m ≤ 10 ∧ ∀ f, f < m → F f < 2 ^ n
theorem IncV.lt {n m : Nat} {F : Nat → Nat} (h : IncV n m F) {f : Nat} (hf : f < m) : F f < 256 := Nat.lt_of_lt_of_le (h.2.2.2 f hf) (p2_256 h.2.1)
theorem eX2_allPoints {n : Nat} {x : OX2} (hn : n ≤ 8) (h : q2_points x = nI n) : fX2_allPoints x = some (nI (2 ^ n - 1)) := by
  unfold fX2_allPoints
  rw [h, p_shl1 (by omega)]
  show some (nI (2 ^ n) - nI 1) = _
  rw [p_sub (p2_pos n)]
theorem eX2_isSet {n : Nat} {x : OX2} (hn : n ≤ 8) (h : q2_points x = nI n) {s : Nat} (hs : s < 2147483648) : fX2_isSet x (nI s) = some (if s < 2 ^ n then 1 else 0) := by
  unfold fX2_isSet
  rw [bd_s (eX2_allPoints hn h), p_dif]
  have e : (dif s (2 ^ n - 1) = 0) = (s < 2 ^ n) := by
    refine propext ⟨fun h => ?_, fun h => ?_⟩
    · refine Nat.lt_pow_two_of_testBit _ fun i hi => ?_
      have h2 := dif0.mp h i
      rw [Nat.testBit_two_pow_sub_one] at h2
      cases hs : s.testBit i
      · rfl
      · have := of_decide_eq_true (h2 hs); omega
    · refine dif0.mpr fun i hi => ?_
      rw [Nat.testBit_two_pow_sub_one, decide_eq_true_eq]
      rcases Nat.lt_or_ge i n with q | q
      · exact q
      · rw [Nat.testBit_lt_two_pow (Nat.lt_of_lt_of_le h (p2_lt q))] at hi; cases hi
  by_cases g : s < 2 ^ n
  · rw [if_pos (show nI (dif s (2 ^ n - 1)) = 0 by rw [e.mpr g]; rfl), if_pos g]
  · rw [if_neg (fun z => g (e.mp ((p_eq0 (dif_lt hs)).mp z))), if_neg g]
theorem eX2_has {n m : Nat} {F : Nat → Nat} {x : OX2} (hx : IncR n m F x) (hv : IncV n m F) {f p : Nat} (hf : f < m) (hp : p < 32) : fX2_has x (nI f) (nI p) = some (nI ((F f).testBit p).toNat) := by
  have hm := hv.2.2.1
  have hF := hv.lt hf
  unfold fX2_has
  simp (disch := omega) only [p_ok, ck_tt, p_ix, hx.2.2 f hf, p_bit]
  cases (F f).testBit p <;> rfl
theorem eX2_copyFrom {n m : Nat} {F : Nat → Nat} (x : OX2) {y : OX2} (hy : IncR n m F y) (hm : m ≤ 10) : ∃ z, fX2_copyFrom x y = some z ∧ IncR n m F z := by
  refine ⟨_, rfl, hy.1, hy.2.1, fun f hf => ?_⟩
  show va_cpy (q2_sets y) (q2_sets x) 0 0 10 f = _
  unfold va_cpy
  rw [if_pos ⟨Nat.zero_le f, by omega⟩]
  simp only [Nat.zero_add, Nat.sub_zero]
  exact hy.2.2 f hf
theorem eX2_clear (x : OX2) (n : Nat) (F : Nat → Nat) : ∃ z, fX2_clear x (nI n) = some z ∧ IncR n 0 F z := ⟨_, rfl, rfl, rfl, fun f hf => absurd hf (Nat.not_lt_zero f)⟩
theorem eX2_add {n m : Nat} {F : Nat → Nat} {x : OX2} (hx : IncR n m F x) (hm : m < 10) (s : Nat) : ∃ z, fX2_add x (nI s) = some z ∧ IncR n (m + 1) (up1 F m s) z := by
  unfold fX2_add
  rw [hx.2.1]
  have e : (10 : Int32) ≤ nI m ↔ False := by
    rw [show (10 : Int32) = nI 10 from rfl, p_le (by omega) (by omega)]
    exact ⟨fun h => by omega, False.elim⟩
  rw [if_neg e.mp, ck_t (p_ok hm (by decide)), p_ix (by omega)]
  refine ⟨_, rfl, hx.1, p_s1 m, fun f hf => ?_⟩
  show upd (q2_sets x) m (nI s) f = _
  unfold upd up1
  by_cases g : f = m
  · rw [if_pos g, if_pos g]
  · rw [if_neg g, if_neg g]; exact hx.2.2 f (by omega)
theorem eX2_put {n m : Nat} {F : Nat → Nat} {x : OX2} (hx : IncR n m F x) {f p : Nat} (hf : f < m) (hm : m ≤ 10) (hp : p < 32) (b : Int32) : ∃ z, fX2_put x (nI f) (nI p) b = some z ∧ IncR n m (up1 F f (if b = 0 then dif (F f) (2 ^ p) else F f ||| 2 ^ p)) z := by
  unfold fX2_put
  have hix : ix (nI f) = f := p_ix (by omega)
  have fin : ∀ v w : Nat, v = w → IncR n m (up1 F f w) (s2_sets x (upd (q2_sets x) (ix (nI f)) (nI v))) := by
    intro v w hvw
    subst hvw
    refine ⟨hx.1, hx.2.1, fun j hj => ?_⟩
    rw [hix]
    show upd (q2_sets x) f (nI v) j = _
    unfold upd up1
    by_cases g : j = f
    · rw [if_pos g, if_pos g]
    · rw [if_neg g, if_neg g]; exact hx.2.2 j hj
  have hok : okI (nI f) 10 = true := p_ok (by omega) (by decide)
  by_cases g : b = 0
  · rw [if_pos g, ck_t hok, ck_t hok]
    refine ⟨_, rfl, ?_⟩
    have val : (q2_sets x (ix (nI f)) &&& ((jshl 1 (nI p)) ^^^ (-1))) = nI (dif (F f) (2 ^ p)) := by rw [p_shl1 hp, hix, hx.2.2 f hf, p_dif]
    rw [val]
    exact fin _ _ (if_pos g).symm
  · rw [if_neg g, ck_t hok, ck_t hok]
    refine ⟨_, rfl, ?_⟩
    have val : (q2_sets x (ix (nI f)) ||| (jshl 1 (nI p))) = nI (F f ||| 2 ^ p) := by rw [p_shl1 hp, hix, hx.2.2 f hf, p_or]
    rw [val]
    exact fin _ _ (if_neg g).symm
/-- a facet taken out -/
def rem1 (F : Nat → Nat) (k : Nat) : Nat → Nat := fun j => if j < k then F j else F (j + 1)
theorem eX2_remove {n m : Nat} {F : Nat → Nat} {x : OX2} (hx : IncR n m F x) {f : Nat} (hf : f < m) (hm : m ≤ 10) : ∃ z, fX2_remove x (nI f) = some z ∧ IncR n (m - 1) (rem1 F f) z := by
  unfold fX2_remove
  -- k rounds: the places f .. f+k-1 are moved
  have key : ∃ g : Nat → Int32, lp (fX2_remove_L2 x) lpN (nI f, q2_sets x) = some (s2_facets (s2_sets x g) (nI (m - 1))) ∧ ∀ j, j < m - 1 → g j = nI (rem1 F f j) := by
    refine ⟨itn (fun k g => upd g (f + k) (g (f + k + 1))) (q2_sets x) (m - 1 - f), ?_, ?_⟩
    · refine lp_go (fun k => (nI (f + k), itn (fun k g => upd g (f + k) (g (f + k + 1))) (q2_sets x) k)) (m - 1 - f) (fun k hk => ?_) ?_ (lpN_gt (by omega))
      · unfold fX2_remove_L2
        dsimp only
        have e : (nI m ≤ nI (f + k + 1)) = False := by rw [p_le (by omega) (by omega)]; exact eq_false (by omega)
        rw [hx.2.1, p_s1, if_neg (fun z => e ▸ z), ck_t (p_ok (by omega) (by decide)), ck_t (p_ok (by omega) (by decide)), p_ix (by omega), p_ix (by omega)]
        rfl
      · unfold fX2_remove_L2
        dsimp only
        have e : nI m ≤ nI (f + (m - 1 - f) + 1) := by rw [p_le (by omega) (by omega)]; omega
        rw [hx.2.1, p_s1, if_pos e]
        show ex (some (s2_facets _ (nI m - nI 1))) = _
        rw [p_sub (by omega)]
        rfl
    · intro j hj
      have h : ∀ k, k ≤ m - 1 - f → ∀ j, j < m → itn (fun k g => upd g (f + k) (g (f + k + 1))) (q2_sets x) k j = nI (if f ≤ j ∧ j < f + k then F (j + 1) else F j) := by
        intro k
        induction k with
        | zero =>
          intro _ j hj
          rw [if_neg (by omega)]
          exact hx.2.2 j hj
        | succ k ih =>
          intro hk j hj
          show upd (itn (fun k g => upd g (f + k) (g (f + k + 1))) (q2_sets x) k) (f + k) (itn (fun k g => upd g (f + k) (g (f + k + 1))) (q2_sets x) k (f + k + 1)) j = _
          by_cases g : j = f + k
          · rw [g, upd_at, ih (by omega) (f + k + 1) (by omega), if_neg (by omega), if_pos (by omega)]
          · rw [upd_ne _ _ g, ih (by omega) j hj]
            by_cases g2 : f ≤ j ∧ j < f + k
            · rw [if_pos g2, if_pos (by omega)]
            · rw [if_neg g2, if_neg (by omega)]
      rw [h _ (Nat.le_refl _) j (by omega)]
      unfold rem1
      by_cases g : j < f
      · rw [if_neg (by omega), if_pos g]
      · rw [if_pos (by omega), if_neg g]
  obtain ⟨g, hg1, hg2⟩ := key
  exact ⟨_, hg1, hx.1, rfl, hg2⟩
/-- the facets with a point -/
def hold (F : Nat → Nat) (p m : Nat) : Nat := itn (fun k h => if (F k).testBit p then h ||| 2 ^ k else h) 0 m
theorem tb_hold (F : Nat → Nat) (p m i : Nat) : (hold F p m).testBit i = (decide (i < m) && (F i).testBit p) := by
  unfold hold
  induction m with
  | zero => rw [show itn (fun k h => if (F k).testBit p then h ||| 2 ^ k else h) 0 0 = 0 from rfl, Nat.zero_testBit]; simp
  | succ m ih =>
    show (if (F m).testBit p then _ else _ : Nat).testBit i = _
    by_cases g : (F m).testBit p = true
    · rw [if_pos g, Nat.testBit_or, ih, Nat.testBit_two_pow]
      by_cases e : m = i
      · subst e; simp [g]
      · have e2 : (i < m + 1) = (i < m) := propext ⟨fun _ => by omega, fun _ => by omega⟩
        simp [e, e2]
    · rw [if_neg g, ih]
      by_cases e : m = i
      · subst e; simp [g]
      · have e2 : (i < m + 1) = (i < m) := propext ⟨fun _ => by omega, fun _ => by omega⟩
        simp [e2]
theorem hold_lt (F : Nat → Nat) (p m : Nat) : hold F p m < 2 ^ m := Nat.lt_pow_two_of_testBit _ fun i hi => by
  rw [tb_hold, decide_eq_false (by omega)]
  rfl
theorem eX2_holders {n m : Nat} {F : Nat → Nat} {x : OX2} (hx : IncR n m F x) (hv : IncV n m F) {p : Nat} (hp : p < 32) : fX2_holders x (nI p) = some (nI (hold F p m)) := by
  have hm := hv.2.2.1
  unfold fX2_holders
  refine lp_cnt (fun k h => (nI h, nI k)) (fun k h => if (F k).testBit p then h ||| 2 ^ k else h) 0 m (fun _ _ => True) trivial (fun k h hk _ => ⟨?_, trivial⟩) (fun _ => ?_) (lpN_gt (by omega))
  · unfold fX2_holders_L4
    dsimp only
    have e : ¬ (nI m ≤ nI k) := by rw [p_le (by omega) (by omega)]; omega
    rw [hx.2.1, if_neg e, bd_s (eX2_has hx hv hk hp), p_s1, p_shl1 (by omega), p_or]
    cases g : (F k).testBit p
    · rfl
    · rfl
  · unfold fX2_holders_L4
    dsimp only
    rw [hx.2.1, if_pos (by rw [p_le (by omega) (by omega)]; omega)]
    rfl
/-- the closure of a set -/
def clk (F : Nat → Nat) (s : Nat) (k c : Nat) : Nat := if dif s (F k) = 0 then c &&& F k else c
def cl (n m : Nat) (F : Nat → Nat) (s : Nat) : Nat := itn (clk F s) (2 ^ n - 1) m
theorem tb_cl (n m : Nat) (F : Nat → Nat) (s i : Nat) : (cl n m F s).testBit i = true ↔ i < n ∧ ∀ k, k < m → dif s (F k) = 0 → (F k).testBit i = true := by
  unfold cl
  induction m with
  | zero =>
    show (2 ^ n - 1).testBit i = true ↔ _
    rw [Nat.testBit_two_pow_sub_one, decide_eq_true_eq]
    exact ⟨fun h => ⟨h, fun k hk => by omega⟩, fun h => h.1⟩
  | succ m ih =>
    show (if dif s (F m) = 0 then itn (clk F s) (2 ^ n - 1) m &&& F m else itn (clk F s) (2 ^ n - 1) m).testBit i = true ↔ _
    by_cases g : dif s (F m) = 0
    · rw [if_pos g, Nat.testBit_and, Bool.and_eq_true, ih]
      refine ⟨fun h => ⟨h.1.1, fun k hk hd => ?_⟩, fun h => ⟨⟨h.1, fun k hk => h.2 k (by omega)⟩, h.2 m (by omega) g⟩⟩
      by_cases e : k = m
      · rw [e]; exact h.2
      · exact h.1.2 k (by omega) hd
    · rw [if_neg g, ih]
      refine ⟨fun h => ⟨h.1, fun k hk hd => ?_⟩, fun h => ⟨h.1, fun k hk => h.2 k (by omega)⟩⟩
      by_cases e : k = m
      · rw [e] at hd; exact absurd hd g
      · exact h.2 k (by omega) hd
theorem lt_of_tb {s n : Nat} (h : ∀ i, s.testBit i = true → i < n) : s < 2 ^ n := Nat.lt_pow_two_of_testBit _ fun i hi => by
  cases g : s.testBit i
  · rfl
  · have := h i g; omega
theorem tb_of_lt {s n i : Nat} (h : s < 2 ^ n) (hi : s.testBit i = true) : i < n := by
  rcases Nat.lt_or_ge i n with q | q
  · exact q
  · rw [Nat.testBit_lt_two_pow (Nat.lt_of_lt_of_le h (p2_lt q))] at hi; cases hi
theorem cl_lt (n m : Nat) (F : Nat → Nat) (s : Nat) : cl n m F s < 2 ^ n := lt_of_tb fun i h => ((tb_cl n m F s i).mp h).1
theorem eX2_closureOf {n m : Nat} {F : Nat → Nat} {x : OX2} (hx : IncR n m F x) (hv : IncV n m F) {s : Nat} (hs : s < 2147483648) : fX2_closureOf x (nI s) = some (nI (cl n m F s)) := by
  have hm := hv.2.2.1
  unfold fX2_closureOf
  rw [bd_s (eX2_allPoints hv.2.1 hx.1)]
  refine lp_cnt (fun k c => (nI c, nI k)) (clk F s) (2 ^ n - 1) m (fun _ _ => True) trivial (fun k c hk _ => ⟨?_, trivial⟩) (fun _ => ?_) (lpN_gt (by omega))
  · unfold fX2_closureOf_L7
    dsimp only
    have e : ¬ (nI m ≤ nI k) := by rw [p_le (by omega) (by omega)]; omega
    have hok : okI (nI k) 10 = true := p_ok (by omega) (by decide)
    rw [hx.2.1, if_neg e, ck_t hok, ck_t hok, p_ix (by omega), hx.2.2 k hk, p_dif, p_and, p_s1]
    unfold clk
    by_cases g : dif s (F k) = 0
    · rw [if_pos g, if_pos (by rw [g]; rfl)]
    · rw [if_neg g, if_neg (by rw [p_eq0 (dif_lt hs)]; exact g)]
  · unfold fX2_closureOf_L7
    dsimp only
    rw [hx.2.1, if_pos (by rw [p_le (by omega) (by omega)]; omega)]
    rfl

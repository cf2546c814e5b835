/-! numbers below 2^31 under the machine's operations, sets as numbers, loops with a number of rounds -/
theorem p_tb (a : Nat) {i : Nat} (hi : i < 32) : (nI a).toBitVec.getLsbD i = a.testBit i := by
  show (BitVec.ofNat 32 a).getLsbD i = _
  rw [BitVec.getLsbD_ofNat, decide_eq_true hi, Bool.true_and]
theorem p_ext {x y : Int32} (h : ∀ i, i < 32 → x.toBitVec.getLsbD i = y.toBitVec.getLsbD i) : x = y := Int32.toBitVec_inj.mp (BitVec.eq_of_getLsbD_eq (fun i hi => h i hi))
theorem p_and (a b : Nat) : nI a &&& nI b = nI (a &&& b) := by
  refine p_ext fun i hi => ?_
  rw [Int32.toBitVec_and, BitVec.getLsbD_and, p_tb a hi, p_tb b hi, p_tb _ hi, Nat.testBit_and]
theorem p_or (a b : Nat) : nI a ||| nI b = nI (a ||| b) := by
  refine p_ext fun i hi => ?_
  rw [Int32.toBitVec_or, BitVec.getLsbD_or, p_tb a hi, p_tb b hi, p_tb _ hi, Nat.testBit_or]
theorem p_xor (a b : Nat) : nI a ^^^ nI b = nI (a ^^^ b) := by
  refine p_ext fun i hi => ?_
  rw [Int32.toBitVec_xor, BitVec.getLsbD_xor, p_tb a hi, p_tb b hi, p_tb _ hi, Nat.testBit_xor]
/-- what is in a and not in b -/
def dif (a b : Nat) : Nat := a ^^^ (a &&& b)
theorem tb_dif (a b i : Nat) : (dif a b).testBit i = (a.testBit i && !b.testBit i) := by
  unfold dif
  rw [Nat.testBit_xor, Nat.testBit_and]
  cases a.testBit i <;> cases b.testBit i <;> rfl
theorem p_m1 : ∀ i, i < 32 → (-1 : Int32).toBitVec.getLsbD i = true := by decide +kernel
theorem p_dif (a b : Nat) : nI a &&& (nI b ^^^ (-1)) = nI (dif a b) := by
  refine p_ext fun i hi => ?_
  rw [Int32.toBitVec_and, BitVec.getLsbD_and, Int32.toBitVec_xor, BitVec.getLsbD_xor, p_tb a hi, p_tb b hi, p_tb _ hi, tb_dif, p_m1 i hi]
  cases a.testBit i <;> cases b.testBit i <;> rfl
theorem p_sl : ∀ n, n < 32 → ((nI n &&& 31).toBitVec.smod 32).toNat = n := by decide +kernel
theorem p_shl (a : Nat) {n : Nat} (hn : n < 32) : jshl (nI a) (nI n) = nI (a <<< n) := by
  refine p_ext fun i hi => ?_
  show ((nI a) <<< (nI n &&& 31)).toBitVec.getLsbD i = _
  rw [Int32.toBitVec_shiftLeft]
  show ((nI a).toBitVec <<< ((nI n &&& 31).toBitVec.smod 32).toNat).getLsbD i = _
  rw [p_sl n hn, BitVec.getLsbD_shiftLeft, p_tb _ hi, Nat.testBit_shiftLeft]
  rcases Nat.lt_or_ge i n with h | h
  · simp [h, Nat.not_le.mpr h]
  · simp only [hi, h, Nat.not_lt.mpr h, decide_true, decide_false, Bool.not_false, Bool.true_and]
    exact p_tb a (by omega)
theorem p_shl1 {n : Nat} (hn : n < 32) : jshl 1 (nI n) = nI (2 ^ n) := by
  have h := p_shl 1 hn
  rw [Nat.shiftLeft_eq, Nat.one_mul] at h
  exact h
theorem p_shr {a n : Nat} (ha : a < 2147483648) (hn : n < 32) : jshr (nI a) (nI n) = nI (a >>> n) := by
  refine p_ext fun i hi => ?_
  show ((nI a) >>> (nI n &&& 31)).toBitVec.getLsbD i = _
  rw [Int32.toBitVec_shiftRight]
  show ((nI a).toBitVec.sshiftRight ((nI n &&& 31).toBitVec.smod 32).toNat).getLsbD i = _
  rw [p_sl n hn, BitVec.getLsbD_sshiftRight, BitVec.msb_eq_getLsbD_last, p_tb _ hi, Nat.testBit_shiftRight]
  have h31 : (nI a).toBitVec.getLsbD 31 = false := by
    rw [p_tb a (by decide)]
    exact Nat.testBit_lt_two_pow ha
  rcases Nat.lt_or_ge (n + i) 32 with h | h
  · simp only [Nat.not_le.mpr hi, h, if_pos, decide_false, Bool.not_false, Bool.true_and]
    exact p_tb a h
  · have h2 : a.testBit (n + i) = false := Nat.testBit_lt_two_pow (Nat.lt_of_lt_of_le ha (Nat.pow_le_pow_right (n := 2) (by decide) (show 31 ≤ n + i by omega)))
    simp only [Nat.not_le.mpr hi, Nat.not_lt.mpr h, if_neg, not_false_eq_true, decide_false, Bool.not_false, Bool.true_and, h2]
    exact h31
theorem p_bit1 {a n : Nat} (ha : a < 2147483648) (hn : n < 32) : jshr (nI a) (nI n) &&& 1 = nI (a.testBit n).toNat := by
  rw [p_shr ha hn]
  show nI (a >>> n) &&& nI 1 = _
  rw [p_and, Nat.and_one_is_mod, Nat.toNat_testBit, Nat.shiftRight_eq_div_pow]
theorem p_bit {a n : Nat} (ha : a < 2147483648) (hn : n < 32) : (jshr (nI a) (nI n) &&& 1 = 1) = (a.testBit n = true) := by
  rw [p_bit1 ha hn]
  cases a.testBit n <;> decide
theorem p_eq {a b : Nat} (ha : a < 2147483648) (hb : b < 2147483648) : (nI a = nI b) = (a = b) := propext (nI_eq ha hb)
theorem p_eq0 {a : Nat} (ha : a < 2147483648) : (nI a = 0) = (a = 0) := p_eq ha (by decide)
theorem p_le {a b : Nat} (ha : a < 2147483648) (hb : b < 2147483648) : (nI a ≤ nI b) = (a ≤ b) := propext (nI_leI ha hb)
theorem p_lt {a b : Nat} (ha : a < 2147483648) (hb : b < 2147483648) : (nI a < nI b) = (a < b) := propext (nI_ltI ha hb)
theorem p_ix {a : Nat} (ha : a < 2147483648) : ix (nI a) = a := nI_clamp ha
theorem p_ok {a n : Nat} (ha : a < n) (hn : n < 2147483648) : okI (nI a) n = true := by
  unfold okI
  rw [Bool.and_eq_true, decide_eq_true_eq, decide_eq_true_eq]
  exact ⟨nI_pos (Nat.lt_trans ha hn), by rw [nI_clamp (Nat.lt_trans ha hn)]; exact ha⟩
theorem p_s1 (a : Nat) : nI a + 1 = nI (a + 1) := nI_1 a
theorem p_sub {a b : Nat} (h : b ≤ a) : nI a - nI b = nI (a - b) := by
  obtain ⟨c, rfl⟩ := Nat.exists_eq_add_of_le h
  rw [Nat.add_sub_cancel_left, Nat.add_comm, ← nI_add]
  show nI c + nI b - nI b = nI c
  simp
theorem p_max {a b : Nat} (ha : a < 2147483648) (hb : b < 2147483648) : jmax (nI a) (nI b) = nI (max a b) := by
  unfold jmax
  by_cases h : a < b
  · rw [if_pos (by rw [p_lt ha hb]; exact h), Nat.max_eq_right (Nat.le_of_lt h)]
  · rw [if_neg (by rw [p_lt ha hb]; exact h), Nat.max_eq_left (Nat.le_of_not_lt h)]
theorem p_nm1 {a : Nat} (ha : a < 2147483648) : (nI a = -1) = False := by
  refine eq_false fun h => ?_
  have h2 := congrArg Int32.toInt h
  rw [nI_toInt ha, show (-1 : Int32).toInt = -1 from by decide] at h2
  omega
theorem upd_at (f : Nat → Int32) (k : Nat) (x : Int32) : upd f k x k = x := by simp [upd]
theorem upd_ne (f : Nat → Int32) {k j : Nat} (x : Int32) (h : j ≠ k) : upd f k x j = f j := by simp [upd, h]
theorem ck_t {α : Type} {c : Bool} (h : c = true) (x : Option α) : ck c x = x := by subst h; rfl
theorem bd_s {α β : Type} {x : Option α} {r : α} (h : x = some r) (k : α → Option β) : x.bind k = k r := by subst h; rfl
theorem ex_s {σ τ : Type} (r : τ) : (ex (some r) : Option (σ ⊕ τ)) = some (.inr r) := rfl
theorem lp_go {σ ρ : Type} {body : σ → Option (σ ⊕ ρ)} (st : Nat → σ) {r : ρ} (N : Nat) (hs : ∀ k, k < N → body (st k) = some (.inl (st (k + 1)))) (he : body (st N) = some (.inr r)) {fuel : Nat} (hf : N < fuel) : lp body fuel (st 0) = some r := by
  have h : ∀ d j fuel, j + d = N → d < fuel → lp body fuel (st j) = some r := by
    intro d
    induction d with
    | zero =>
      intro j fuel hj hf
      obtain ⟨m, rfl⟩ : ∃ m, fuel = m + 1 := ⟨fuel - 1, by omega⟩
      show (body (st j)).bind _ = _
      rw [show j = N by omega, he]; rfl
    | succ d ih =>
      intro j fuel hj hf
      obtain ⟨m, rfl⟩ : ∃ m, fuel = m + 1 := ⟨fuel - 1, by omega⟩
      show (body (st j)).bind _ = _
      rw [hs j (by omega)]
      exact ih (j + 1) m (by omega) (by omega)
  exact h N 0 fuel (by omega) hf
theorem lpN_gt {n : Nat} (h : n < 100000) : n < lpN := h
/-- n rounds of a step -/
def itn {α : Type} (f : Nat → α → α) (a : α) : Nat → α
  | 0 => a
  | k + 1 => f k (itn f a k)
/-- a loop with a counter that starts at 0, an end test against n, and other values beside it -/
theorem lp_cnt {σ ρ α : Type} {body : σ → Option (σ ⊕ ρ)} (mk : Nat → α → σ) (f : Nat → α → α) (a : α) {r : ρ} (n : Nat) (P : Nat → α → Prop) (h0 : P 0 a) (hs : ∀ k x, k < n → P k x → body (mk k x) = some (.inl (mk (k + 1) (f k x))) ∧ P (k + 1) (f k x)) (he : P n (itn f a n) → body (mk n (itn f a n)) = some (.inr r)) {fuel : Nat} (hf : n < fuel) : lp body fuel (mk 0 a) = some r := by
  have hP : ∀ k, k ≤ n → P k (itn f a k) := by
    intro k
    induction k with
    | zero => intro _; exact h0
    | succ k ih => intro hk; exact (hs k _ (by omega) (ih (by omega))).2
  exact lp_go (fun k => mk k (itn f a k)) n (fun k hk => (hs k _ hk (hP k (by omega))).1) (he (hP n (Nat.le_refl n))) hf
/-- a loop by an invariant: each round goes on or leaves with Post; after N rounds it leaves -/
theorem lp_inv {σ ρ : Type} {body : σ → Option (σ ⊕ ρ)} (Inv : Nat → σ → Prop) (Post : ρ → Prop) (N : Nat) {s0 : σ} (h0 : Inv 0 s0) (hs : ∀ k s, k < N → Inv k s → (∃ s', body s = some (.inl s') ∧ Inv (k + 1) s') ∨ (∃ r, body s = some (.inr r) ∧ Post r)) (he : ∀ s, Inv N s → ∃ r, body s = some (.inr r) ∧ Post r) {fuel : Nat} (hf : N < fuel) : ∃ r, lp body fuel s0 = some r ∧ Post r := by
  have h : ∀ d j s fuel, j + d = N → d < fuel → Inv j s → ∃ r, lp body fuel s = some r ∧ Post r := by
    intro d
    induction d with
    | zero =>
      intro j s fuel hj hf hI
      obtain ⟨m, rfl⟩ : ∃ m, fuel = m + 1 := ⟨fuel - 1, by omega⟩
      obtain ⟨r, h1, h2⟩ := he s ((show j = N by omega) ▸ hI)
      refine ⟨r, ?_, h2⟩
      show (body s).bind _ = _
      rw [h1]; rfl
    | succ d ih =>
      intro j s fuel hj hf hI
      obtain ⟨m, rfl⟩ : ∃ m, fuel = m + 1 := ⟨fuel - 1, by omega⟩
      rcases hs j s (by omega) hI with ⟨s', h1, h2⟩ | ⟨r, h1, h2⟩
      · obtain ⟨r, h3, h4⟩ := ih (j + 1) s' m (by omega) (by omega) h2
        refine ⟨r, ?_, h4⟩
        show (body s).bind _ = _
        rw [h1]; exact h3
      · refine ⟨r, ?_, h2⟩
        show (body s).bind _ = _
        rw [h1]; rfl
  exact h N 0 s0 fuel (by omega) hf h0

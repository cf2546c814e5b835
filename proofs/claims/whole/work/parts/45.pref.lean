/-! the reference: its small helpers, closures, covers -/
theorem p_ix0 : ix (0 : Int32) = 0 := by decide
theorem p_ix1 : ix (1 : Int32) = 1 := by decide
theorem p_2a (k : Nat) : (2 : Int32) + nI k = nI (2 + k) := nI_add 2 k
theorem bi_t (b : Bool) : is01 (nI b.toNat) = true := by cases b <;> decide
theorem bi_0 (b : Bool) : (nI b.toNat = 0) = (b = false) := by cases b <;> decide
theorem bi_1 (b : Bool) : (nI b.toNat = 1) = (b = true) := by cases b <;> decide
theorem okI_of {x : Int32} {N : Nat} (h : okI x N = true) (hN : N < 2147483648) : ∃ k, k < N ∧ x = nI k := by
  unfold okI at h
  rw [Bool.and_eq_true, decide_eq_true_eq, decide_eq_true_eq] at h
  obtain ⟨j, h1, h2⟩ := nI_of h.1
  rw [h2, nI_clamp h1] at h
  exact ⟨j, h.2, h2⟩
theorem okI_nI {k N : Nat} (hk : k < 2147483648) : okI (nI k) N = decide (k < N) := by
  unfold okI
  rw [nI_clamp hk, decide_eq_true (nI_pos hk), Bool.true_and]
theorem okI_neg {x : Int32} (h : x < 0) (N : Nat) : okI x N = false := by
  unfold okI
  rw [decide_eq_false (fun z => z h), Bool.false_and]
theorem ifq {α : Type} {a b : Nat} (ha : a < 2147483648) (hb : b < 2147483648) (x y : α) : (if nI a = nI b then x else y) = if a = b then x else y := by
  by_cases h : a = b
  · rw [if_pos h, if_pos (by rw [h])]
  · rw [if_neg h, if_neg (by rw [p_eq ha hb]; exact h)]
theorem ifq0 {α : Type} {a : Nat} (ha : a < 2147483648) (x y : α) : (if nI a = 0 then x else y) = if a = 0 then x else y := ifq ha (by decide) x y
def NowR (n m : Nat) (F : Nat → Nat) (g : Nat → Int32) : Prop := g 0 = nI n ∧ g 1 = nI m ∧ ∀ f, f < m → g (2 + f) = nI (F f)
theorem NowR.n {n m : Nat} {F : Nat → Nat} {g : Nat → Int32} (h : NowR n m F g) : g (ix 0) = nI n := by rw [p_ix0]; exact h.1
theorem NowR.m {n m : Nat} {F : Nat → Nat} {g : Nat → Int32} (h : NowR n m F g) : g (ix 1) = nI m := by rw [p_ix1]; exact h.2.1
theorem NowR.f {n m : Nat} {F : Nat → Nat} {g : Nat → Int32} (h : NowR n m F g) {f : Nat} (hf : f < m) (hm : m ≤ 10) : g (ix (2 + nI f)) = nI (F f) := by
  rw [p_2a, p_ix (by omega)]; exact h.2.2 f hf
theorem ok12 {f : Nat} (hf : f < 10) : okI (2 + nI f) 12 = true := by
  rw [p_2a]; exact p_ok (by omega) (by decide)
def sbB (a b : Nat) : Bool := Nat.beq (dif a b) 0
theorem sbB_t {a b : Nat} : sbB a b = true ↔ Sb a b := by
  unfold sbB; rw [beq_t]; exact dif0
theorem sbB_f {a b : Nat} (h : ¬ Sb a b) : sbB a b = false := by
  cases hb : sbB a b
  · rfl
  · exact absurd (sbB_t.mp hb) h
theorem eX7_has {a p : Nat} (ha : a < 2147483648) (hp : p < 32) : fX7_has (nI a) (nI p) = some (nI (a.testBit p).toNat) := by
  unfold fX7_has
  rw [p_bit1 ha hp]
  cases a.testBit p <;> rfl
theorem eX7_holds {a b : Nat} (hb : b < 2147483648) : fX7_holds (nI a) (nI b) = some (nI (sbB b a).toNat) := by
  unfold fX7_holds
  rw [p_dif, ifq0 (dif_lt hb)]
  unfold sbB
  by_cases h : dif b a = 0
  · rw [if_pos h, beq_t.mpr h]; rfl
  · rw [if_neg h, nbeq_f h]; rfl
theorem eX7_in0 (x : Int32) {N : Nat} (hN : N < 2147483648) : fX7_in x 0 (nI N - 1) = some (nI (okI x N).toNat) := by
  unfold fX7_in
  by_cases h : x < 0
  · rw [if_pos h, okI_neg h]; rfl
  · rw [if_neg h]
    obtain ⟨j, h1, rfl⟩ := nI_of h
    rw [okI_nI h1]
    rcases Nat.eq_zero_or_pos N with z | z
    · subst z
      rw [if_pos (by
        show (nI 0 - 1 : Int32) < nI j
        rw [Int32.lt_iff_toInt_lt, nI_toInt h1]
        have : (nI 0 - 1 : Int32).toInt = -1 := by decide
        omega)]
      rfl
    · rw [show (nI N - 1 : Int32) = nI (N - 1) from p_sub (b := 1) z]
      by_cases g : j < N
      · rw [if_neg (by rw [p_lt (by omega) h1]; omega), decide_eq_true g]; rfl
      · rw [if_pos (by rw [p_lt (by omega) h1]; omega), decide_eq_false g]; rfl
theorem eX7_inN (x : Int32) {N : Nat} (hN : N < 2147483647) : fX7_in x 0 (nI N) = some (nI (okI x (N + 1)).toNat) := by
  have h := eX7_in0 x (N := N + 1) (by omega)
  rw [show (nI (N + 1) - 1 : Int32) = nI N from nI_pred N] at h
  exact h
theorem eX7_fails_t (o : OX7) {b : Bool} (h : b = true) (w : Int32) : fX7_fails o (nI b.toNat) w = some (0, o) := by subst h; rfl
theorem eX7_fails_f (o : OX7) {b : Bool} (h : b = false) (w : Int32) : fX7_fails o (nI b.toNat) w = some (1, s7_thrown o w) := by subst h; rfl
section P7
variable {n m : Nat} {F : Nat → Nat}
theorem eX7_all {o : OX7} (hn : n ≤ 8) (h : NowR n m F (q7_now o)) : fX7_all o = some (nI (2 ^ n - 1)) := by
  unfold fX7_all fX7_every
  rw [h.n, p_shl1 (by omega)]
  show some (nI (2 ^ n) - nI 1) = _
  rw [p_sub (p2_pos n)]
theorem eX7_closureOf {o : OX7} (h : NowR n m F (q7_now o)) (hv : IncV n m F) {s : Nat} (hs : s < 2147483648) : fX7_closureOf o (nI s) = some (nI (cl n m F s)) := by
  have hm := hv.2.2.1
  unfold fX7_closureOf
  rw [bd_s (eX7_all hv.2.1 h)]
  refine lp_cnt (fun k c => (nI c, nI k)) (clk F s) (2 ^ n - 1) m (fun _ _ => True) trivial (fun k c hk _ => ⟨?_, trivial⟩) (fun _ => ?_) (lpN_gt (by omega))
  · unfold fX7_closureOf_L7
    dsimp only
    rw [h.m, if_neg (nI_ge hk (by omega)), ck_t (ok12 (by omega)), h.f hk hm, bd_s (eX7_holds hs), p_s1]
    unfold clk
    by_cases g : dif s (F k) = 0
    · rw [if_pos g, if0_t (sbB_t.mpr (Sb.of g)), ck_t (ok12 (by omega)), p_and]
    · rw [if_neg g, if0_f (sbB_f (fun z => g z.d)), p_and, Nat.and_self]
  · unfold fX7_closureOf_L7
    dsimp only
    rw [h.m, if_pos (nI_le (Nat.le_refl m) (by omega))]
    rfl
def ClM (n m : Nat) (F : Nat → Nat) (g : Nat → Int32) : Prop := ∀ s, s < 2 ^ n → g s = nI (cl n m F s)
theorem cvB_f {lo up : Nat} (h : ¬ Cv n m F lo up) : cvB n m F lo up = false := by
  cases hb : cvB n m F lo up
  · rfl
  · exact absurd (cvB_t.mp hb) h
theorem or_p2 {a p : Nat} (ha : a < 2 ^ n) (hp : p < n) : a ||| 2 ^ p < 2 ^ n := Nat.or_lt_two_pow ha (Nat.pow_lt_pow_right (by decide) hp)
theorem or_lt2 {a b : Nat} (ha : a < 2 ^ n) (hb : b < 2 ^ n) : a ||| b < 2 ^ n := Nat.or_lt_two_pow ha hb
theorem eX7_isCover {o : OX7} (hn : n ≤ 8) (hc : ClM n m F (q7_closed o)) {up lo : Nat} (hu : up < 2 ^ n) (hl : lo < 2 ^ n) : fX7_isCover o (nI up) (nI lo) = some (nI (cvB n m F lo up).toNat) := by
  have h8 := p2_256 hn
  unfold fX7_isCover
  by_cases e : up = lo
  · rw [if_pos (by rw [e]), cvB_f (fun z => z.2.1 e.symm)]; rfl
  · rw [if_neg (by rw [p_eq (by omega) (by omega)]; exact e), bd_s (eX7_holds (by omega))]
    by_cases g : Sb lo up
    · rw [if0_t (sbB_t.mpr g)]
      obtain ⟨r, h1, h2⟩ : ∃ r, lp (fX7_isCover_L17 o (nI up) (nI lo)) lpN 0 = some r ∧ r = nI (cvB n m F lo up).toNat := by
        refine lp_inv (fun k v => v = nI k ∧ ∀ p, p < k → up.testBit p = true → lo.testBit p = false → cl n m F (lo ||| 2 ^ p) = up) _ 8 ⟨rfl, fun p h => absurd h (Nat.not_lt_zero p)⟩ (fun k v hk hI => ?_) (fun v hI => ?_) (lpN_gt (by omega))
        · obtain ⟨rfl, hI⟩ := hI
          unfold fX7_isCover_L17
          rw [if_neg (show ¬ (8 : Int32) ≤ nI k from nI_ge (b := 8) hk (by omega)), p_dif, bd_s (eX7_has (dif_lt (by omega)) (by omega))]
          cases hb : (dif up lo).testBit k
          · rw [if0_f rfl]
            refine Or.inl ⟨_, rfl, p_s1 k, fun p hp a1 a2 => ?_⟩
            by_cases q : p = k
            · subst q
              rw [tb_dif, a1, a2] at hb
              cases hb
            · exact hI p (by omega) a1 a2
          · rw [if0_t rfl]
            have hb2 := hb
            rw [tb_dif, Bool.and_eq_true, Bool.not_eq_true'] at hb2
            have hkn := tb_of_lt hu hb2.1
            have ho := or_p2 hl hkn
            rw [p_shl1 (by omega), p_or, ck_t (p_ok (by omega) (by decide)), p_ix (by omega), hc _ ho]
            have h3 := cl_lt n m F (lo ||| 2 ^ k)
            by_cases q : cl n m F (lo ||| 2 ^ k) = up
            · rw [if_pos (by rw [q])]
              refine Or.inl ⟨_, rfl, p_s1 k, fun p hp a1 a2 => ?_⟩
              by_cases q2 : p = k
              · subst q2; exact q
              · exact hI p (by omega) a1 a2
            · rw [if_neg (by rw [p_eq (by omega) (by omega)]; exact q)]
              refine Or.inr ⟨_, rfl, ?_⟩
              rw [cvB_f (fun z => q (z.2.2 k hkn hb2.1 hb2.2))]; rfl
        · obtain ⟨rfl, hI⟩ := hI
          unfold fX7_isCover_L17
          rw [if_pos (show (8 : Int32) ≤ nI 8 from nI_le (a := 8) (Nat.le_refl 8) (by omega))]
          refine ⟨_, rfl, ?_⟩
          rw [cvB_t.mpr ⟨g, fun z => e z.symm, fun p hp => hI p (by omega)⟩]; rfl
      rw [h1, h2]
    · rw [if0_f (sbB_f g), cvB_f (fun z => g z.1)]; rfl
theorem eX3_isCover {x : OX3} (hn : n ≤ 8) (hp : q3_points x = nI n) (hc : ClM n m F (q3_closed x)) {up lo : Nat} (hu : up < 2 ^ n) (hl : lo < 2 ^ n) : fX3_isCover x (nI lo) (nI up) = some (nI (cvB n m F lo up).toNat) := by
  have h8 := p2_256 hn
  unfold fX3_isCover
  rw [p_dif, p_dif, ifq0 (dif_lt (by omega)), ifq0 (dif_lt (by omega))]
  by_cases g1 : dif up lo = 0
  · rw [if_pos g1, cvB_f (fun z => z.2.1 (Sb.as z.1 (Sb.of g1)))]; rfl
  · rw [if_neg g1]
    by_cases g : dif lo up = 0
    · rw [if_pos g]
      have hne : lo ≠ up := fun z => g1 (by rw [z]; exact (Sb.rf up).d)
      obtain ⟨r, h1, h2⟩ : ∃ r, lp (fX3_isCover_L23 x (nI lo) (nI up)) lpN 0 = some r ∧ r = nI (cvB n m F lo up).toNat := by
        refine lp_inv (fun k v => v = nI k ∧ ∀ p, p < k → up.testBit p = true → lo.testBit p = false → cl n m F (lo ||| 2 ^ p) = up) _ n ⟨rfl, fun p h => absurd h (Nat.not_lt_zero p)⟩ (fun k v hk hI => ?_) (fun v hI => ?_) (lpN_gt (by omega))
        · obtain ⟨rfl, hI⟩ := hI
          unfold fX3_isCover_L23
          rw [hp, if_neg (nI_ge hk (by omega)), p_dif, p_bit1 (dif_lt (by omega)) (by omega)]
          cases hb : (dif up lo).testBit k
          · rw [if1_f rfl]
            refine Or.inl ⟨_, rfl, p_s1 k, fun p hp a1 a2 => ?_⟩
            by_cases q : p = k
            · subst q
              rw [tb_dif, a1, a2] at hb
              cases hb
            · exact hI p (by omega) a1 a2
          · rw [if1_t rfl]
            have hb2 := hb
            rw [tb_dif, Bool.and_eq_true, Bool.not_eq_true'] at hb2
            have ho := or_p2 hl hk
            rw [p_shl1 (by omega), p_or, ck_t (p_ok (by omega) (by decide)), p_ix (by omega), hc _ ho]
            have h3 := cl_lt n m F (lo ||| 2 ^ k)
            by_cases q : cl n m F (lo ||| 2 ^ k) = up
            · rw [if_pos (by rw [q])]
              refine Or.inl ⟨_, rfl, p_s1 k, fun p hp a1 a2 => ?_⟩
              by_cases q2 : p = k
              · subst q2; exact q
              · exact hI p (by omega) a1 a2
            · rw [if_neg (by rw [p_eq (by omega) (by omega)]; exact q)]
              refine Or.inr ⟨_, rfl, ?_⟩
              rw [cvB_f (fun z => q (z.2.2 k hk hb2.1 hb2.2))]; rfl
        · obtain ⟨rfl, hI⟩ := hI
          unfold fX3_isCover_L23
          rw [hp, if_pos (nI_le (Nat.le_refl n) (by omega))]
          refine ⟨_, rfl, ?_⟩
          rw [cvB_t.mpr ⟨Sb.of g, hne, fun p hp => hI p hp⟩]; rfl
      rw [h1, h2]
    · rw [if_neg g, cvB_f (fun z => g z.1.d)]; rfl
/-! the reference's tables -/
def LaidR (n m : Nat) (F : Nat → Nat) (c f r p : Nat → Int32) (k : Int32) : Prop := ClM n m F c ∧ RR n m F r (rk n m F) ∧ NumI n (fl n m F) k p f
/-- places on the way: those in the list numbered, the other faces not -1 -/
def NumJ (n m : Nat) (F : Nat → Nat) (L : List Nat) (size : Int32) (numbers sets : Nat → Int32) : Prop := size = nI L.length ∧ (∀ k, k < L.length → sets k = nI (L.getD k 0)) ∧ (∀ k, k < L.length → numbers (L.getD k 0) = nI k) ∧ ∀ s, s < 2 ^ n → (numbers s = -1 ↔ ¬ Fc n m F s)
theorem eX7_layRank {o : OX7} (hn : n ≤ 8) (hc : ClM n m F (q7_closed o)) (hp : ∀ s, s < 2 ^ n → (q7_placeOf o s = -1 ↔ ¬ Fc n m F s)) {k : Nat} (hk : k < 2 ^ n) (hr : ∀ s, s < k → Fc n m F s → q7_rankOf o s = nI (rk n m F s)) : fX7_layRank o (nI k) = some (s7_rankOf o (upd (q7_rankOf o) k (nI (rk n m F k)))) := by
  have h8 := p2_256 hn
  unfold fX7_layRank
  refine lp_cnt (fun t x => (nI x, nI t)) (fun t x => if (fcB n m F t && cvB n m F t k) = true then max x (rk n m F t + 1) else x) 0 k (fun _ x => x ≤ 9) (Nat.zero_le _) (fun t x ht hx => ?_) (fun hx => ?_) (lpN_gt (by omega))
  · unfold fX7_layRank_L4
    dsimp only
    have ht2 : t < 2 ^ n := by omega
    rw [if_neg (nI_ge ht (by omega)), ck_t (p_ok (by omega) (by decide)), p_ix (by omega)]
    by_cases ft : Fc n m F t
    · rw [if_neg (fun z => (hp t ht2).mp z ft), bd_s (eX7_isCover hn hc hk ht2), (fcB_t ht2).mpr ft, Bool.true_and]
      have b := rk_8 hn ft
      cases hv : cvB n m F t k
      · rw [if0_f rfl, if_neg (by decide), p_s1]
        exact ⟨rfl, hx⟩
      · rw [if0_t rfl, if_pos rfl, ck_t (p_ok (by omega) (by decide)), hr t ht ft, p_s1, p_s1, p_max (by omega) (by omega)]
        exact ⟨rfl, Nat.max_le.mpr ⟨hx, by omega⟩⟩
    · rw [if_pos ((hp t ht2).mpr ft), fcB_f ht2 ft, Bool.false_and, if_neg (by decide), p_s1]
      exact ⟨rfl, hx⟩
  · unfold fX7_layRank_L4
    dsimp only
    rw [if_pos (nI_le (Nat.le_refl k) (by omega)), ck_t (p_ok (by omega) (by decide)), p_ix (by omega), rk_eq k]
    rfl
end P7

/-! the class: signatures; an isomorphism keeps them -/
def wS (s : Nat) : Int64 := jlshl 1 (4 * nI (pc s))
def sgA (p : Nat) (a : Int64) (s : Nat) : Int64 := if s.testBit p = true then a + wS s else a
def sgL (L : List Nat) (p : Nat) : Int64 := L.foldl (sgA p) 0
theorem sgA_comm (p : Nat) (a : Int64) (s t : Nat) : sgA p (sgA p a s) t = sgA p (sgA p a t) s := by
  unfold sgA
  rcases bool_ft (s.testBit p) with b | b <;> rcases bool_ft (t.testBit p) with c | c
  · rw [if_bf b, if_bf c, if_bf b]
  · rw [if_bf b, if_pos c, if_bf b]
  · rw [if_pos b, if_bf c, if_pos b, if_bf c]
  · rw [if_pos b, if_pos c, if_pos b, if_pos c, Int64.add_assoc, Int64.add_comm (wS s), ← Int64.add_assoc]
theorem sgL_perm {L K : List Nat} (h : L.Perm K) (p : Nat) : sgL L p = sgL K p := h.foldl_eq' (fun s _ t _ a => sgA_comm p a s t) 0
theorem sgL_s (A : Nat → Nat) (m p : Nat) : sgL (lsM A (m + 1)) p = sgA p (sgL (lsM A m) p) (A m) := by
  unfold sgL
  rw [show lsM A (m + 1) = lsM A m ++ [A m] from map_s A m, List.foldl_append]; rfl
theorem sgL_map {A C : Nat → Nat} {p q : Nat} : ∀ m, (∀ f, f < m → (A f).testBit p = (C f).testBit q ∧ pc (A f) = pc (C f)) → sgL (lsM A m) p = sgL (lsM C m) q := by
  intro m
  induction m with
  | zero => intro _; rfl
  | succ m ih =>
    intro h
    obtain ⟨h1, h2⟩ := h m (by omega)
    rw [sgL_s, sgL_s, ih fun f hf => h f (by omega)]
    unfold sgA wS
    rw [h1, h2]
/-- a bijection's image of a set has as many points -/
theorem pc_len (s : Nat) : pc s = ((List.range 8).filter fun i => s.testBit i).length := List.countP_eq_length_filter
theorem pc_mpS_le {n s : Nat} {x : Nat → Nat} (hn : n ≤ 8) (hx : IjN n x) (hs : s < 2 ^ n) : pc s ≤ pc (mpS n x s) := by
  rw [pc_len, pc_len]
  refine nd_inj x (List.Pairwise.filter _ List.nodup_range) (fun a b ha hb e => ?_) (fun a ha => ?_)
  · exact hx.2 a b (tb_small hs (List.mem_filter.mp ha).2) (tb_small hs (List.mem_filter.mp hb).2) e
  · have h1 := (List.mem_filter.mp ha).2
    have h2 := tb_small hs h1
    have h3 := hx.1 a h2
    exact List.mem_filter.mpr ⟨List.mem_range.mpr (by omega), (tb_mpS x s (x a) n).mpr ⟨a, h2, h1, rfl⟩⟩
theorem pc_mpS {n s : Nat} {x : Nat → Nat} (hn : n ≤ 8) (hx : IjN n x) (hs : s < 2 ^ n) : pc (mpS n x s) = pc s := by
  obtain ⟨v1, v2⟩ := hx.inv
  have h := pc_mpS_le hn v1 (mpS_lt (s := s) n hx.1)
  rw [mpS_comp hx.1, mpS_id hs v2] at h
  exact Nat.le_antisymm h (pc_mpS_le hn hx hs)
section SIG
variable {n m : Nat} {F G : Nat → Nat}
theorem IsoF.sig {x : Nat → Nat} (hn : n ≤ 8) (hF : ∀ f, f < m → F f < 2 ^ n) (h : IsoF n m F G x) {p : Nat} (hp : p < n) : sgL (lsM F m) p = sgL (lsM G m) (x p) := by
  rw [← sgL_perm h.2 (x p)]
  refine sgL_map m fun f hf => ⟨Bool.eq_iff_iff.mpr ?_, (pc_mpS hn h.1 (hF f hf)).symm⟩
  show (F f).testBit p = true ↔ (mpS n x (F f)).testBit (x p) = true
  rw [tb_mpS]
  constructor
  · intro g
    exact ⟨p, hp, g, rfl⟩
  · rintro ⟨q, h1, h2, h3⟩
    rw [← h.1.2 q p h1 hp h3]
    exact h2
theorem updL_at (f : Nat → Int64) (k : Nat) (x : Int64) : vp_updL f k x k = x := if_pos rfl
theorem updL_ne (f : Nat → Int64) {k j : Nat} (x : Int64) (h : j ≠ k) : vp_updL f k x j = f j := if_neg h
theorem eX4_sign {x : OX2} (hv : IncV n m F) (hx : IncR n m F x) (a : Nat → Int64) : ∃ r, fX4_sign x a = some r ∧ ∀ p, p < n → r p = sgL (lsM F m) p := by
  have hn := hv.2.1
  have hm := hv.2.2.1
  unfold fX4_sign
  refine lp_inv (fun p v => v.1 = nI p ∧ ∀ q, q < p → v.2 q = sgL (lsM F m) q) _ n ⟨rfl, fun q hq => absurd hq (Nat.not_lt_zero q)⟩ (fun p v hp hI => Or.inl ?_) (fun v hI => ?_) (lpN_gt (by omega))
  · obtain ⟨vp, va⟩ := v
    obtain ⟨h1, h2⟩ := hI
    dsimp only at h1 h2
    subst h1
    have hok : okI (nI p) 8 = true := p_ok (by omega) (by decide)
    unfold fX4_sign_L2
    dsimp only
    rw [hx.1, if_neg (nI_ge hp (by omega)), ck_t hok, p_ix (by omega)]
    refine lp_in (fun f v => v.1 = nI f ∧ (∀ q, q < p → v.2 q = sgL (lsM F m) q) ∧ v.2 p = sgL (lsM F f) p) m ⟨rfl, fun q hq => (updL_ne _ _ (by omega)).trans (h2 q hq), updL_at _ _ _⟩ (fun f v hf hI => ?_) (fun v hI => ?_) (lpN_gt (by omega))
    · obtain ⟨vf, vs⟩ := v
      obtain ⟨g1, g2, g3⟩ := hI
      dsimp only at g1 g2 g3
      subst g1
      unfold fX4_sign_L16
      dsimp only
      rw [hx.2.1, if_neg (nI_ge hf (by omega)), bd_s (eX2_has hx hv hf (by omega)), p_s1]
      rcases bool_ft ((F f).testBit p) with b | b
      · rw [if0_f b]
        refine ⟨_, rfl, rfl, g2, ?_⟩
        rw [sgL_s]
        unfold sgA
        rw [if_bf b]
        exact g3
      · rw [if0_t b, ck_t hok, ck_t (p_ok (by omega) (by decide)), p_ix (a := f) (by omega), hx.2.2 f hf, bd_s (bitCount_pc (hv.lt hf)), ck_t hok, p_ix (a := p) (by omega), g3]
        refine ⟨_, rfl, rfl, fun q hq => (updL_ne _ _ (by omega)).trans (g2 q hq), ?_⟩
        rw [sgL_s]
        unfold sgA
        rw [if_pos b]
        exact updL_at _ _ _
    · obtain ⟨vf, vs⟩ := v
      obtain ⟨g1, g2, g3⟩ := hI
      dsimp only at g1 g2 g3
      subst g1
      unfold fX4_sign_L16
      dsimp only
      rw [hx.2.1, if_pos (nI_le (Nat.le_refl m) (by omega)), p_s1]
      refine ⟨_, rfl, rfl, fun q hq => ?_⟩
      by_cases e : q = p
      · rw [e]; exact g3
      · exact g2 q (by omega)
  · obtain ⟨vp, va⟩ := v
    obtain ⟨h1, h2⟩ := hI
    dsimp only at h1 h2
    subst h1
    unfold fX4_sign_L2
    dsimp only
    rw [hx.1, if_pos (nI_le (Nat.le_refl n) (by omega))]
    exact ⟨_, rfl, h2⟩
/-- the points of one signature -/
def alk (S : Nat → Int64) (w : Int64) (k : Nat) : Nat := nbs (fun _ q => decide (S q = w)) k 0
theorem alk_s (S : Nat → Int64) (w : Int64) (k : Nat) : alk S w (k + 1) = if decide (S k = w) = true then alk S w k ||| 2 ^ k else alk S w k := rfl
theorem tb_alk (S : Nat → Int64) (w : Int64) (k i : Nat) : (alk S w k).testBit i = true ↔ i < k ∧ S i = w := by
  unfold alk
  rw [tb_nbs, Bool.and_eq_true, decide_eq_true_eq, decide_eq_true_eq]
theorem alk_lt (S : Nat → Int64) (w : Int64) (k : Nat) : alk S w k < 2 ^ k := nbs_lt _ k 0
theorem eX4_alike {S : Nat → Int64} {a : Nat → Int64} {k : Nat} (hk : k ≤ 8) (ha : ∀ q, q < k → a q = S q) (w : Int64) : fX4_alike w a (nI k) = some (nI (alk S w k)) := by
  unfold fX4_alike
  refine lp_go (fun j => (nI (alk S w j), nI j)) k (fun j hj => ?_) ?_ (lpN_gt (by omega))
  · unfold fX4_alike_L6
    dsimp only
    have hc : (jlcmp (a (ix (nI j))) w = 0) ↔ S j = w := by
      rw [p_ix (by omega), ha j hj]
      exact lg_cmp_eq _ _
    rw [if_neg (nI_ge hj (by omega)), ck_t (p_ok (by omega) (by decide)), p_shl1 (by omega), p_or, p_s1, alk_s]
    by_cases e : S j = w
    · rw [if_pos (hc.mpr e), if_pos (decide_eq_true e)]
    · rw [if_neg (fun z => e (hc.mp z)), if_bf (decide_eq_false e)]
  · unfold fX4_alike_L6
    dsimp only
    rw [if_pos (nI_le (Nat.le_refl k) (by omega))]
    rfl
/-- isomorphic: each signature has as many points on both sides -/
theorem iso_alk {x : Nat → Nat} (hn : n ≤ 8) (hF : ∀ f, f < m → F f < 2 ^ n) (h : IsoF n m F G x) (w : Int64) : pc (alk (sgL (lsM F m)) w n) = pc (alk (sgL (lsM G m)) w n) := by
  rw [← pc_mpS hn h.1 (alk_lt _ w n)]
  refine congrArg pc (tb_ext fun q => ?_)
  rw [tb_mpS, tb_alk]
  constructor
  · rintro ⟨p, h1, h2, h3⟩
    have h4 := (tb_alk _ _ _ _).mp h2
    rw [h.sig hn hF h1, h3] at h4
    exact ⟨by have := h.1.1 p h1; omega, h4.2⟩
  · rintro ⟨h1, h2⟩
    obtain ⟨p, h3, h4⟩ := h.1.surj h1
    refine ⟨p, h3, (tb_alk _ _ _ _).mpr ⟨h3, ?_⟩, h4⟩
    rw [h.sig hn hF h3, h4]
    exact h2
end SIG

/-! what the class's and the reference's states have in common; the checks of arguments -/
def HiR (h6 : OX1) (h7 : Nat → Int32) (e7 : Int32) : Prop := ∃ (c d : Nat) (H : Nat → Nat × Nat × (Nat → Nat)), c ≤ 8 ∧ d < 8 ∧ q1_count h6 = nI c ∧ q1_oldest h6 = nI d ∧ e7 = nI c ∧ ∀ i, i < c → IncV (H i).1 (H i).2.1 (H i).2.2 ∧ IncR (H i).1 (H i).2.1 (H i).2.2 (q1_ring h6 ((d + i) % 8)) ∧ NowR (H i).1 (H i).2.1 (H i).2.2 (fun k => h7 (12 * i + k))
def SvR (b6 : Int32) (s6 : OX2) (b7 : Int32) (s7 : Nat → Int32) : Prop := b6 = b7 ∧ (b6 = 0 ∨ (b6 = 1 ∧ ∃ n m F, IncV n m F ∧ IncR n m F s6 ∧ NowR n m F s7))
def TxR (t : OX5) (b7 : Nat → Int32) (l7 : Int32) : Prop := ∃ (L : Nat) (B : Nat → Nat), L ≤ 300 ∧ q5_length t = nI L ∧ l7 = nI L ∧ ∀ k, k < L → q5_bytes t k = nI (B k) ∧ b7 k = nI (B k) ∧ B k < 256
def Rel (o : OX6) (r : OX7) : Prop := ∃ n m F, IncV n m F ∧ IncR n m F (q6_now o) ∧ LatR n m F (q6_lattice o) ∧ NowR n m F (q7_now r) ∧ (q7_isLaid r = 0 ∨ LdR n m F r) ∧ HiR (q6_history o) (q7_history r) (q7_entries r) ∧ SvR (q6_hasSaved o) (q6_saved o) (q7_isSaved r) (q7_saved r) ∧ TxR (q6_text o) (q7_buffer r) (q7_length r)
theorem ifchk {α : Type} (x : Int32) {N : Nat} (hN : N < 2147483648) (a b : α) : (if x < 0 then a else (if x < nI N then b else a)) = if okI x N = true then b else a := by
  by_cases h : x < 0
  · rw [if_pos h, okI_neg h, if_neg Bool.false_ne_true]
  · rw [if_neg h]
    obtain ⟨j, h1, rfl⟩ := nI_of h
    rw [okI_nI h1]
    by_cases g : j < N
    · rw [if_pos (by rw [p_lt h1 hN]; exact g), decide_eq_true g, if_pos rfl]
    · rw [if_neg (by rw [p_lt h1 hN]; exact g), decide_eq_false g, if_neg Bool.false_ne_true]
section PQ
variable {n m : Nat} {F : Nat → Nat}
theorem nf_256 (hn : n ≤ 8) : nf n m F ≤ 256 := Nat.le_trans nf_le (p2_256 hn)
theorem eX6_checkPoint {o : OX6} (hv : IncV n m F) (hi : IncR n m F (q6_now o)) (x : Int32) : fX6_checkPoint o x = if okI x n = true then some (.inr 0) else some (.inl 2) := by
  have := hv.2.1
  unfold fX6_checkPoint
  rw [hi.1, ifchk x (by omega)]
theorem eX6_checkFacet {o : OX6} (hv : IncV n m F) (hi : IncR n m F (q6_now o)) (x : Int32) : fX6_checkFacet o x = if okI x m = true then some (.inr 0) else some (.inl 2) := by
  have := hv.2.2.1
  unfold fX6_checkFacet
  rw [hi.2.1, ifchk x (by omega)]
theorem eX6_checkFace {o : OX6} (hv : IncV n m F) (hl : LatR n m F (q6_lattice o)) (x : Int32) : fX6_checkFace o x = if okI x (nf n m F) = true then some (.inr 0) else some (.inl 2) := by
  have := nf_256 (m := m) (F := F) hv.2.1
  unfold fX6_checkFace
  rw [show q3_size (q6_lattice o) = nI (nf n m F) from hl.2.2.1.1, ifchk x (by omega)]
theorem eX6_isSet {o : OX2} (hv : IncV n m F) (hi : IncR n m F o) (x : Int32) : fX2_isSet o x = some (nI (okI x (2 ^ n)).toNat) := by
  have hn := hv.2.1
  have h8 := p2_256 hn
  by_cases h : x < 0
  · unfold fX2_isSet
    rw [bd_s (eX2_allPoints hn hi.1), okI_neg h]
    rw [if_neg (fun z => ?_)]
    · rfl
    · have hm : (x &&& (nI (2 ^ n - 1) ^^^ -1)).toBitVec.getLsbD 31 = true := by
        rw [Int32.toBitVec_and, BitVec.getLsbD_and, Int32.toBitVec_xor, BitVec.getLsbD_xor, p_tb _ (by decide), p_m1 31 (by decide)]
        have h31 : (2 ^ n - 1).testBit 31 = false := Nat.testBit_lt_two_pow (by omega)
        have hx : x.toBitVec.getLsbD 31 = true := by
          rw [Int32.lt_iff_toInt_lt] at h
          have h2 : x.toBitVec.toInt < 0 := h
          rw [← BitVec.msb_eq_getLsbD_last, BitVec.msb_eq_toInt, decide_eq_true_eq]
          exact h2
        rw [h31, hx]; rfl
      rw [z] at hm
      revert hm
      decide
  · obtain ⟨j, h1, rfl⟩ := nI_of h
    rw [eX2_isSet hn hi.1 h1, okI_nI h1]
    by_cases g : j < 2 ^ n
    · rw [if_pos g, decide_eq_true g]; rfl
    · rw [if_neg g, decide_eq_false g]; rfl
theorem eX6_checkSet {o : OX6} (hv : IncV n m F) (hi : IncR n m F (q6_now o)) (x : Int32) : fX6_checkSet o x = if okI x (2 ^ n) = true then some (.inr 0) else some (.inl 1) := by
  unfold fX6_checkSet
  rw [bd_s (eX6_isSet hv hi x)]
  cases okI x (2 ^ n) <;> rfl
theorem eX7_isPoint {o : OX7} (hv : IncV n m F) (hN : NowR n m F (q7_now o)) (x : Int32) : fX7_isPoint o x = some (nI (okI x n).toNat) := by
  have := hv.2.1
  unfold fX7_isPoint
  rw [hN.n, bd_s (eX7_in0 x (by omega)), ck_t (bi_t _)]
theorem eX7_isFacet {o : OX7} (hv : IncV n m F) (hN : NowR n m F (q7_now o)) (x : Int32) : fX7_isFacet o x = some (nI (okI x m).toNat) := by
  have := hv.2.2.1
  unfold fX7_isFacet
  rw [hN.m, bd_s (eX7_in0 x (by omega)), ck_t (bi_t _)]
theorem eX7_isSet {o : OX7} (hv : IncV n m F) (hN : NowR n m F (q7_now o)) (x : Int32) : fX7_isSet o x = some (nI (okI x (2 ^ n)).toNat) := by
  have hn := hv.2.1
  have h8 := p2_256 hn
  have hp := p2_pos n
  unfold fX7_isSet
  rw [bd_s (eX7_all hn hN), bd_s (eX7_inN x (by omega)), show 2 ^ n - 1 + 1 = 2 ^ n by omega, ck_t (bi_t _)]
theorem eX7_isFace {o : OX7} (hv : IncV n m F) (hN : NowR n m F (q7_now o)) (hL : q7_isLaid o = 0 ∨ LdR n m F o) (x : Int32) : ∃ r, fX7_isFace o x = some (nI (okI x (nf n m F)).toNat, r) ∧ LdR n m F r := by
  have := nf_256 (m := m) (F := F) hv.2.1
  obtain ⟨r, h1, h2⟩ := eX7_lay hv hN hL
  unfold fX7_isFace
  rw [bd_s h1, show q7_faceMany r = nI (nf n m F) from h2.2.2.2.1, bd_s (eX7_in0 x (by omega)), ck_t (bi_t _)]
  exact ⟨_, rfl, h2.1, h2.2.1, h2.2.2.1, rfl, h2.2.2.2.2⟩
theorem NumI.f {size : Int32} {nu se : Nat → Int32} (h : NumI n (fl n m F) size nu se) {k : Nat} (hk : k < nf n m F) (h8 : nf n m F ≤ 256) : se (ix (nI k)) = nI (fa n m F k) := by
  rw [p_ix (by omega)]; exact h.2.1 k hk
theorem NumI.no {size : Int32} {nu se : Nat → Int32} (h : NumI n (fl n m F) size nu se) (hn : n ≤ 8) {s : Nat} (fs : Fc n m F s) : nu (ix (nI s)) = nI (ni n m F s) := by
  have h8 := p2_256 hn
  have h1 := fs.1
  rw [p_ix (by omega)]
  have := h.2.2.1 (ni n m F s) (ni_lt hn fs)
  rw [show (fl n m F).getD (ni n m F s) 0 = s from fa_ni hn fs] at this
  exact this
/-- the faces of an unfinished tuple: what a lattice's reader uses of it -/
theorem eX7_rankAt {o : OX7} (hn : n ≤ 8) (hL : LaidR n m F (q7_closed o) (q7_faces o) (q7_rankOf o) (q7_placeOf o) (q7_faceMany o)) {k : Nat} (hk : k < nf n m F) : fX7_rankAt o (nI k) = some (nI (rk n m F (fa n m F k))) := by
  have h8 := p2_256 hn
  have hf := fa_fc hn hk
  have h1 := hf.1
  have hnf := nf_256 (m := m) (F := F) hn
  unfold fX7_rankAt
  rw [ck_t (p_ok (by omega) (by decide)), hL.2.2.f hk hnf, ck_t (p_ok (by omega) (by decide)), p_ix (by omega), hL.2.1 _ hf]
theorem eX7_isIn {o : OX7} (hn : n ≤ 8) (hL : LaidR n m F (q7_closed o) (q7_faces o) (q7_rankOf o) (q7_placeOf o) (q7_faceMany o)) {k l : Nat} (hk : k < nf n m F) (hl : l < nf n m F) : fX7_isIn o (nI k) (nI l) = some (nI (sbB (fa n m F k) (fa n m F l)).toNat) := by
  have h8 := p2_256 hn
  have hf := (fa_fc hn hk).1
  have hnf := nf_256 (m := m) (F := F) hn
  unfold fX7_isIn
  rw [ck_t (p_ok (by omega) (by decide)), ck_t (p_ok (by omega) (by decide)), hL.2.2.f hk hnf, hL.2.2.f hl hnf, bd_s (eX7_holds (by omega)), ck_t (bi_t _)]
theorem eX7_covers {o : OX7} (hn : n ≤ 8) (hL : LaidR n m F (q7_closed o) (q7_faces o) (q7_rankOf o) (q7_placeOf o) (q7_faceMany o)) {k l : Nat} (hk : k < nf n m F) (hl : l < nf n m F) : fX7_covers o (nI k) (nI l) = some (nI (cvB n m F (fa n m F l) (fa n m F k)).toNat) := by
  have h8 := p2_256 hn
  have hnf := nf_256 (m := m) (F := F) hn
  unfold fX7_covers
  rw [ck_t (p_ok (by omega) (by decide)), ck_t (p_ok (by omega) (by decide)), hL.2.2.f hk hnf, hL.2.2.f hl hnf, bd_s (eX7_isCover hn hL.1 (fa_fc hn hk).1 (fa_fc hn hl).1), ck_t (bi_t _)]
/-- how many t < k have P -/
def cnt (P : Nat → Bool) (k : Nat) : Nat := itn (fun t x => if P t = true then x + 1 else x) 0 k
theorem cnt_s (P : Nat → Bool) (k : Nat) : cnt P (k + 1) = if P k = true then cnt P k + 1 else cnt P k := rfl
theorem cnt_le (P : Nat → Bool) (k : Nat) : cnt P k ≤ k := by
  induction k with
  | zero => exact Nat.le_refl 0
  | succ k ih => rw [cnt_s]; split <;> omega
theorem cnt_mono (P : Nat → Bool) {j k : Nat} (h : j ≤ k) : cnt P j ≤ cnt P k := by
  induction k with
  | zero => rw [show j = 0 by omega]; exact Nat.le_refl _
  | succ k ih =>
    by_cases e : j = k + 1
    · rw [e]; exact Nat.le_refl _
    · have := ih (by omega)
      rw [cnt_s]; split <;> omega
theorem cnt_congr {P Q : Nat → Bool} {k : Nat} (h : ∀ t, t < k → P t = Q t) : cnt P k = cnt Q k := by
  induction k with
  | zero => rfl
  | succ k ih => rw [cnt_s, cnt_s, ih (fun t ht => h t (by omega)), h k (by omega)]
theorem cnt_inj {P : Nat → Bool} {i j : Nat} (hi : P i = true) (hj : P j = true) (h : cnt P i = cnt P j) : i = j := by
  have key : ∀ a b, a < b → P a = true → cnt P a < cnt P b := fun a b hab ha => by
    have h1 := cnt_mono P (j := a + 1) (k := b) hab
    rw [cnt_s, if_pos ha] at h1
    omega
  rcases Nat.lt_trichotomy i j with q | q | q
  · have := key i j q hi; omega
  · exact q
  · have := key j i q hj; omega
/-- whether the face b covers a (up) or a covers b (down) -/
def cwB (n m : Nat) (F : Nat → Nat) (p : Int32) (a b : Nat) : Bool := if p = 0 then cvB n m F b a else cvB n m F a b
theorem eX3_inWay {x : OX3} (hn : n ≤ 8) (hp : q3_points x = nI n) (hc : ClM n m F (q3_closed x)) (p : Int32) {a b : Nat} (ha : a < 2 ^ n) (hb : b < 2 ^ n) : fX3_isCoverInWay x (nI a) (nI b) p = some (nI (cwB n m F p a b).toNat) := by
  unfold fX3_isCoverInWay cwB
  by_cases e : p = 0
  · rw [if_pos e, if_pos e, bd_s (eX3_isCover hn hp hc ha hb), ck_t (bi_t _)]
  · rw [if_neg e, if_neg e, bd_s (eX3_isCover hn hp hc hb ha), ck_t (bi_t _)]
theorem LatR.cl {x : OX3} (h : LatR n m F x) : ClM n m F (q3_closed x) := h.1.2.2
theorem eX3_countCovers {x : OX3} (hn : n ≤ 8) (h : LatR n m F x) (p : Int32) {a : Nat} (ha : a < 2 ^ n) : fX3_countCovers x (nI a) p = some (nI (cnt (fun j => cwB n m F p a (fa n m F j)) (nf n m F))) := by
  have hnf := nf_256 (m := m) (F := F) hn
  unfold fX3_countCovers
  refine lp_cnt (fun k c => (nI c, nI k)) (fun t x => if cwB n m F p a (fa n m F t) = true then x + 1 else x) 0 (nf n m F) (fun _ _ => True) trivial (fun k c hk _ => ⟨?_, trivial⟩) (fun _ => ?_) (lpN_gt (by omega))
  · unfold fX3_countCovers_L5
    dsimp only
    rw [show q3_size x = nI (nf n m F) from h.2.2.1.1, if_neg (nI_ge hk (by omega)), ck_t (p_ok (by omega) (by decide)), h.2.2.1.f hk hnf, bd_s (eX3_inWay hn h.1.1 h.cl p ha (fa_fc hn hk).1), p_s1]
    cases cwB n m F p a (fa n m F k)
    · rfl
    · rw [if0_t rfl, p_s1]; rfl
  · unfold fX3_countCovers_L5
    dsimp only
    rw [show q3_size x = nI (nf n m F) from h.2.2.1.1, if_pos (nI_le (Nat.le_refl _) (by omega))]
    rfl
theorem eX7_coverCount {o : OX7} (hn : n ≤ 8) (hL : LaidR n m F (q7_closed o) (q7_faces o) (q7_rankOf o) (q7_placeOf o) (q7_faceMany o)) (p : Int32) {a : Nat} (ha : a < nf n m F) : fX7_coverCount o (nI a) p = some (nI (cnt (fun j => cwB n m F p (fa n m F a) (fa n m F j)) (nf n m F))) := by
  have hnf := nf_256 (m := m) (F := F) hn
  unfold fX7_coverCount
  refine lp_cnt (fun k c => (nI c, nI k)) (fun t x => if cwB n m F p (fa n m F a) (fa n m F t) = true then x + 1 else x) 0 (nf n m F) (fun _ _ => True) trivial (fun k c hk _ => ⟨?_, trivial⟩) (fun _ => ?_) (lpN_gt (by omega))
  · unfold fX7_coverCount_L5 cwB
    dsimp only
    rw [show q7_faceMany o = nI (nf n m F) from hL.2.2.1, if_neg (nI_ge hk (by omega))]
    by_cases e : p = 0
    · rw [if_pos e, if_pos e, bd_s (eX7_covers hn hL ha hk), p_s1, p_s1]
      cases cvB n m F (fa n m F k) (fa n m F a)
      · rw [if0_f rfl, if_neg Bool.false_ne_true, Int32.add_zero]
      · rfl
    · rw [if_neg e, if_neg e, bd_s (eX7_covers hn hL hk ha), p_s1, p_s1]
      cases cvB n m F (fa n m F a) (fa n m F k)
      · rw [if0_f rfl, if_neg Bool.false_ne_true, Int32.add_zero]
      · rfl
  · unfold fX7_coverCount_L5
    dsimp only
    rw [show q7_faceMany o = nI (nf n m F) from hL.2.2.1, if_pos (nI_le (Nat.le_refl _) (by omega))]
    rfl
end PQ

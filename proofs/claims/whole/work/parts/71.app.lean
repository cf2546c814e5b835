/-! append, truncate: the calls -/
/-- a word's byte, the first the highest -/
def byw (w : Int32) (j : Nat) : Nat := (w.toBitVec.toNat >>> (24 - 8 * j)) % 256
theorem byw_lt (w : Int32) (j : Nat) : byw w j < 256 := Nat.mod_lt _ (by decide)
theorem tb_255 {i : Nat} (hi : i < 32) : (255 : Int32).toBitVec.getLsbD i = decide (i < 8) := by
  revert i
  decide +kernel
theorem tb_m256 (a i : Nat) : (a % 256).testBit i = (decide (i < 8) && a.testBit i) := Nat.testBit_mod_two_pow a 8 i
theorem ush_n : ∀ j, j < 4 → ((nI (24 - 8 * j)).toUInt32 &&& Int32.toUInt32 31).toBitVec % 32 = BitVec.ofNat 32 (24 - 8 * j) := by decide +kernel
theorem p_ushr (w : Int32) {j : Nat} (hj : j < 4) : jushr w (nI (24 - 8 * j)) &&& 255 = nI (byw w j) := by
  refine p_ext fun i hi => ?_
  rw [Int32.toBitVec_and, BitVec.getLsbD_and, tb_255 hi, p_tb _ hi]
  unfold byw
  rw [tb_m256, Nat.testBit_shiftRight]
  have e : (jushr w (nI (24 - 8 * j))).toBitVec = w.toBitVec >>> (24 - 8 * j) := by
    show (w.toUInt32 >>> ((nI (24 - 8 * j)).toUInt32 &&& Int32.toUInt32 31)).toBitVec = _
    rw [UInt32.toBitVec_shiftRight, ush_n j hj]
    show w.toBitVec >>> (BitVec.ofNat 32 (24 - 8 * j)) = _
    rw [BitVec.ushiftRight_eq', BitVec.toNat_ofNat, Nat.mod_eq_of_lt (by omega)]
  rw [e, BitVec.getLsbD_ushiftRight, Bool.and_comm]
  rfl
theorem p_sshr (w : Int32) {j : Nat} (hj : j < 4) : jshr w (nI (24 - 8 * j)) &&& 255 = nI (byw w j) := by
  refine p_ext fun i hi => ?_
  rw [Int32.toBitVec_and, BitVec.getLsbD_and, tb_255 hi, p_tb _ hi]
  unfold byw
  rw [tb_m256, Nat.testBit_shiftRight]
  show ((w >>> (nI (24 - 8 * j) &&& 31)).toBitVec.getLsbD i && decide (i < 8)) = _
  rw [Int32.toBitVec_shiftRight]
  show ((w.toBitVec.sshiftRight ((nI (24 - 8 * j) &&& 31).toBitVec.smod 32).toNat).getLsbD i && decide (i < 8)) = _
  rw [p_sl _ (by omega), BitVec.getLsbD_sshiftRight]
  by_cases h : i < 8
  · rw [decide_eq_true h, decide_eq_false (by omega : ¬ 32 ≤ i), if_pos (by omega : 24 - 8 * j + i < 32)]
    simp only [Bool.not_false, Bool.true_and, Bool.and_true]
    rfl
  · rw [decide_eq_false h, Bool.and_false, Bool.false_and]
theorem shs : ∀ j, j < 4 → ¬ (24 - 8 * nI j : Int32) < 0 ∧ (24 - 8 * nI j : Int32) = nI (24 - 8 * j) ∧ (24 - 8 * nI j : Int32) + (-8) = 24 - 8 * nI (j + 1) := by decide +kernel
theorem sh4 : (24 - 8 * nI 4 : Int32) < 0 := by decide
def bnz (w : Int32) (j : Nat) : Bool := !Nat.beq (byw w j) 0
theorem bnz_if {α : Type} (w : Int32) (j : Nat) (x y : α) : (if nI (byw w j) = 0 then x else y) = if bnz w j = true then y else x := by
  have := byw_lt w j
  rw [ifq0 (by omega)]
  unfold bnz
  by_cases h : byw w j = 0
  · rw [if_pos h, beq_t.mpr h]; rfl
  · rw [if_neg h, nbeq_f h]; rfl
theorem eX5_bytesIn (w : Int32) : fX5_bytesIn w = some (nI (cnt (bnz w) 4)) := by
  unfold fX5_bytesIn
  refine lp_go (fun j => (nI (cnt (bnz w) j), 24 - 8 * nI j)) 4 (fun j hj => ?_) ?_ (lpN_gt (by omega))
  · obtain ⟨h1, h2, h3⟩ := shs j hj
    unfold fX5_bytesIn_L5
    dsimp only
    rw [if_neg h1, h3, h2, p_ushr w hj, bnz_if, cnt_s, p_s1]
    by_cases b : bnz w j = true
    · rw [if_pos b, if_pos b]
    · rw [if_neg b, if_neg b]
  · unfold fX5_bytesIn_L5
    dsimp only
    rw [if_pos sh4]
    rfl
theorem cnt_add (P : Nat → Bool) (k j : Nat) : cnt P (k + j) = cnt P k + cnt (fun t => P (k + t)) j := by
  induction j with
  | zero => rfl
  | succ j ih =>
    rw [← Nat.add_assoc, cnt_s, cnt_s, ih]
    split <;> omega
/-- what stands in a buffer: the first L0 bytes as before, then a list -/
def TL (L0 : Nat) (B : Nat → Nat) (L : List Nat) (T : Nat → Int32) (len : Int32) : Prop := len = nI (L0 + L.length) ∧ (∀ k, k < L0 → T k = nI (B k)) ∧ ∀ k, k < L.length → T (L0 + k) = nI (L.getD k 0)
theorem TL_add {L0 : Nat} {B : Nat → Nat} {L : List Nat} {T : Nat → Int32} {len : Int32} (h : TL L0 B L T len) (hl : L0 + L.length < 300) (s : Nat) : okI len 300 = true ∧ TL L0 B (L ++ [s]) (upd T (ix len) (nI s)) (len + 1) := by
  obtain ⟨h1, h2, h3⟩ := h
  subst h1
  refine ⟨p_ok hl (by decide), by rw [p_s1, List.length_append]; rfl, fun k hk => ?_, fun k hk => ?_⟩
  · rw [p_ix (by omega), upd_ne _ _ (by omega)]; exact h2 k hk
  · rw [List.length_append, List.length_singleton] at hk
    rw [p_ix (by omega)]
    by_cases e : k = L.length
    · rw [e, upd_at, getD_e]
    · rw [upd_ne _ _ (by omega), getD_l L s (by omega)]; exact h3 k (by omega)
theorem eX5_put {L0 : Nat} {B : Nat → Nat} {L : List Nat} {t : OX5} (w : Int32) (h : TL L0 B L (q5_bytes t) (q5_length t)) (hl : L0 + L.length + cnt (bnz w) 4 ≤ 300) : ∃ z, fX5_put t w = some z ∧ TL L0 B (L ++ fm (bnz w) (byw w) 4) (q5_bytes z) (q5_length z) := by
  unfold fX5_put
  refine lp_inv (fun j v => v.1 = 24 - 8 * nI j ∧ TL L0 B (L ++ fm (bnz w) (byw w) j) v.2.2 v.2.1) _ 4 ?_ (fun j v hj hI => Or.inl ?_) (fun v hI => ?_) (lpN_gt (by omega))
  · refine ⟨rfl, ?_⟩
    rw [show fm (bnz w) (byw w) 0 = [] from rfl, List.append_nil]
    exact h
  · obtain ⟨v1, v2, v3⟩ := v
    obtain ⟨h1, h2⟩ := hI
    dsimp only at h1 h2
    subst h1
    obtain ⟨g1, g2, g3⟩ := shs j hj
    unfold fX5_put_L3
    dsimp only
    rw [if_neg g1, g3, g2, p_ushr w hj, bnz_if, fm_s]
    by_cases b : bnz w j = true
    · have hlen : L0 + (L ++ fm (bnz w) (byw w) j).length < 300 := by
        have := cnt_lt hj b
        rw [List.length_append, fm_len]
        omega
      obtain ⟨a1, a2⟩ := TL_add h2 hlen (byw w j)
      have hn3 : ¬ (300 : Int32) ≤ v2 := by rw [h2.1]; exact nI_ge (b := 300) hlen (by omega)
      rw [if_pos b, if_pos b, if_neg hn3, ck_t a1, ← List.append_assoc]
      exact ⟨_, rfl, rfl, a2⟩
    · rw [if_neg b, if_neg b]
      exact ⟨_, rfl, rfl, h2⟩
  · obtain ⟨v1, v2, v3⟩ := v
    obtain ⟨h1, h2⟩ := hI
    dsimp only at h1 h2
    subst h1
    unfold fX5_put_L3
    dsimp only
    rw [if_pos sh4]
    exact ⟨_, rfl, h2⟩
/-- the twenty bytes of five words -/
def wsel (a b c d e : Int32) (k : Nat) : Int32 := if k < 4 then a else if k < 8 then b else if k < 12 then c else if k < 16 then d else e
def by5 (a b c d e : Int32) (k : Nat) : Nat := byw (wsel a b c d e k) (k % 4)
theorem eX7_byteOf (a b c d e : Int32) {k : Nat} (hk : k < 20) : fX7_byteOf a b c d e (nI k) = some (nI (by5 a b c d e k)) := by
  have hJ : ∀ w, fX7_byteOf_J45 (nI k) w = some (nI (byw w (k % 4))) := fun w => by
    unfold fX7_byteOf_J45
    rw [show (4 : Int32) = nI 4 from rfl, p_rem (by omega) (by decide), (shs (k % 4) (Nat.mod_lt _ (by decide))).2.1, p_sshr w (Nat.mod_lt _ (by decide))]
  unfold fX7_byteOf by5 wsel
  rw [hJ, hJ, hJ, hJ, hJ]
  by_cases h1 : k < 4
  · rw [if_neg (show ¬ (4 : Int32) ≤ nI k from nI_ge (b := 4) h1 (by omega)), if_pos h1]
  · rw [if_pos (show (4 : Int32) ≤ nI k from nI_le (a := 4) (by omega) (by omega)), if_neg h1]
    by_cases h2 : k < 8
    · rw [if_neg (show ¬ (8 : Int32) ≤ nI k from nI_ge (b := 8) h2 (by omega)), if_pos h2]
    · rw [if_pos (show (8 : Int32) ≤ nI k from nI_le (a := 8) (by omega) (by omega)), if_neg h2]
      by_cases h3 : k < 12
      · rw [if_neg (show ¬ (12 : Int32) ≤ nI k from nI_ge (b := 12) h3 (by omega)), if_pos h3]
      · rw [if_pos (show (12 : Int32) ≤ nI k from nI_le (a := 12) (by omega) (by omega)), if_neg h3]
        by_cases h4 : k < 16
        · rw [if_neg (show ¬ (16 : Int32) ≤ nI k from nI_ge (b := 16) h4 (by omega)), if_pos h4]
        · rw [if_pos (show (16 : Int32) ≤ nI k from nI_le (a := 16) (by omega) (by omega)), if_neg h4]
def nz5 (a b c d e : Int32) (k : Nat) : Bool := !Nat.beq (by5 a b c d e k) 0
theorem nz5_if {α : Type} (a b c d e : Int32) (k : Nat) (x y : α) : (if nI (by5 a b c d e k) = 0 then x else y) = if nz5 a b c d e k = true then y else x := bnz_if _ _ x y
theorem fm_add (P : Nat → Bool) (g : Nat → Nat) (k j : Nat) : fm P g (k + j) = fm P g k ++ fm (fun t => P (k + t)) (fun t => g (k + t)) j := by
  induction j with
  | zero => rw [show fm (fun t => P (k + t)) (fun t => g (k + t)) 0 = [] from rfl, List.append_nil]; rfl
  | succ j ih =>
    rw [← Nat.add_assoc, fm_s, fm_s, ih]
    split
    · rw [List.append_assoc]
    · rfl
theorem fm_congr {P Q : Nat → Bool} {f g : Nat → Nat} {k : Nat} (h : ∀ t, t < k → P t = Q t ∧ f t = g t) : fm P f k = fm Q g k := by
  induction k with
  | zero => rfl
  | succ k ih => rw [fm_s, fm_s, ih (fun t ht => h t (by omega)), (h k (by omega)).1, (h k (by omega)).2]
theorem nz5_w (a b c d e : Int32) : fm (nz5 a b c d e) (by5 a b c d e) 20 = fm (bnz a) (byw a) 4 ++ fm (bnz b) (byw b) 4 ++ fm (bnz c) (byw c) 4 ++ fm (bnz d) (byw d) 4 ++ fm (bnz e) (byw e) 4 := by
  have hw : ∀ (i : Nat) (w : Int32), (∀ t, t < 4 → wsel a b c d e (4 * i + t) = w) → fm (fun t => nz5 a b c d e (4 * i + t)) (fun t => by5 a b c d e (4 * i + t)) 4 = fm (bnz w) (byw w) 4 := fun i w h => fm_congr fun t ht => by
    have e1 : by5 a b c d e (4 * i + t) = byw w t := by
      unfold by5
      rw [h t ht, show (4 * i + t) % 4 = t by omega]
    refine ⟨?_, e1⟩
    unfold nz5 bnz
    rw [e1]
  rw [show (20 : Nat) = 16 + 4 from rfl, fm_add, show (16 : Nat) = 12 + 4 from rfl, fm_add, show (12 : Nat) = 8 + 4 from rfl, fm_add, show (8 : Nat) = 4 + 4 from rfl, fm_add]
  have h0 := hw 0 a (fun t ht => by unfold wsel; rw [if_pos (by omega)])
  have h1 := hw 1 b (fun t ht => by unfold wsel; rw [if_neg (by omega), if_pos (by omega)])
  have h2 := hw 2 c (fun t ht => by unfold wsel; rw [if_neg (by omega), if_neg (by omega), if_pos (by omega)])
  have h3 := hw 3 d (fun t ht => by unfold wsel; rw [if_neg (by omega), if_neg (by omega), if_neg (by omega), if_pos (by omega)])
  have h4 := hw 4 e (fun t ht => by unfold wsel; rw [if_neg (by omega), if_neg (by omega), if_neg (by omega), if_neg (by omega)])
  simp only [Nat.mul_zero, Nat.zero_add, Nat.mul_one] at h0 h1
  rw [← h0, ← h1, ← h2, ← h3, ← h4]
section AP
variable {o : OX6} {r : OX7}
theorem TxR_TL {L0 : Nat} {B : Nat → Nat} {L : List Nat} {t : OX5} {b7 : Nat → Int32} {l7 : Int32} (hL : L0 + L.length ≤ 300) (hB : ∀ k, k < L0 → B k < 256) (hL2 : ∀ s, s ∈ L → s < 256) (h : TL L0 B L (q5_bytes t) (q5_length t)) (g : TL L0 B L b7 l7) : TxR t b7 l7 := by
  refine ⟨L0 + L.length, fun k => if k < L0 then B k else L.getD (k - L0) 0, hL, h.1, g.1, fun k hk => ?_⟩
  by_cases e : k < L0
  · dsimp only
    rw [if_pos e]
    exact ⟨h.2.1 k e, g.2.1 k e, hB k e⟩
  · dsimp only
    rw [if_neg e]
    have a := h.2.2 (k - L0) (by omega)
    have b := g.2.2 (k - L0) (by omega)
    rw [show L0 + (k - L0) = k by omega] at a b
    exact ⟨a, b, hL2 _ (getD_mem (by omega))⟩
theorem sk_0 (h : Rel o r) (a b c d e : Int32) : SK_0 Rel o r a b c d e := by
  obtain ⟨n, m, F, hv, hi, hl, hN, hL, hH, hS, hT⟩ := h
  obtain ⟨L0, B, hL0, t1, t2, t3⟩ := id hT
  have hw := nz5_w a b c d e
  have hcw : cnt (nz5 a b c d e) 20 = cnt (bnz a) 4 + cnt (bnz b) 4 + cnt (bnz c) 4 + cnt (bnz d) 4 + cnt (bnz e) 4 := by
    have := congrArg List.length hw
    simp only [List.length_append, fm_len] at this
    exact this
  have hc20 := cnt_le (nz5 a b c d e) 20
  unfold SK_0 fX6_append fX7_append
  rw [bd_s (eX5_bytesIn a), bd_s (eX5_bytesIn b), bd_s (eX5_bytesIn c), bd_s (eX5_bytesIn d), bd_s (eX5_bytesIn e), t1, nI_add, nI_add, nI_add, nI_add, nI_add, ← hcw]
  have loop : ∀ {α : Type} {x : α} {P : α → Int32 × OX7 → Prop}, (∃ y, (if 300 < nI (L0 + cnt (nz5 a b c d e) 20) then fX7_append_J68 r a b c d e 0 else fX7_append_J68 r a b c d e 1) = some y ∧ P x y) → ∃ res res2, some x = some res ∧ lp (fX7_append_L11 r a b c d e) lpN (0, 0) = some res2 ∧ P res res2 := fun h => by
    refine sk_lp (lp_cntE (fun k x => (nI x, nI k)) (fun k x => if nz5 a b c d e k = true then x + 1 else x) 0 20 (fun _ _ => True) trivial (fun k x hk _ => ⟨?_, trivial⟩) (fun _ => ?_) (lpN_gt (by omega)))
    · unfold fX7_append_L11
      dsimp only
      rw [if_neg (show ¬ (20 : Int32) ≤ nI k from nI_ge (b := 20) hk (by omega)), bd_s (eX7_byteOf a b c d e hk), nz5_if, p_s1, p_s1, Int32.add_zero]
      by_cases g : nz5 a b c d e k = true
      · rw [if_pos g, if_pos g]
      · rw [if_neg g, if_neg g]
    · unfold fX7_append_L11
      dsimp only
      rw [if_pos (show (20 : Int32) ≤ nI 20 from nI_le (a := 20) (Nat.le_refl 20) (by omega)), t2, nI_add]
      exact ex_ex h
  by_cases g : L0 + cnt (nz5 a b c d e) 20 ≤ 300
  · have hL0T : TL L0 B [] (q5_bytes (q6_text o)) (q5_length (q6_text o)) := ⟨t1, fun k hk => (t3 k hk).1, fun k hk => absurd hk (Nat.not_lt_zero k)⟩
    obtain ⟨z1, a1, b1⟩ := eX5_put a hL0T (by rw [List.length_nil]; omega)
    obtain ⟨z2, a2, b2⟩ := eX5_put (t := ((q5_bytes z1), (q5_length z1), (q5_kind (q6_text o)), (q5_start (q6_text o)), (q5_end (q6_text o)))) b b1 (by rw [List.length_append, fm_len, List.length_nil]; omega)
    obtain ⟨z3, a3, b3⟩ := eX5_put (t := ((q5_bytes z2), (q5_length z2), (q5_kind (q6_text o)), (q5_start (q6_text o)), (q5_end (q6_text o)))) c b2 (by rw [List.length_append, List.length_append, fm_len, fm_len, List.length_nil]; omega)
    obtain ⟨z4, a4, b4⟩ := eX5_put (t := ((q5_bytes z3), (q5_length z3), (q5_kind (q6_text o)), (q5_start (q6_text o)), (q5_end (q6_text o)))) d b3 (by rw [List.length_append, List.length_append, List.length_append, fm_len, fm_len, fm_len, List.length_nil]; omega)
    obtain ⟨z5, a5, b5⟩ := eX5_put (t := ((q5_bytes z4), (q5_length z4), (q5_kind (q6_text o)), (q5_start (q6_text o)), (q5_end (q6_text o)))) e b4 (by rw [List.length_append, List.length_append, List.length_append, List.length_append, fm_len, fm_len, fm_len, fm_len, List.length_nil]; omega)
    rw [List.nil_append, ← hw] at b5
    rw [if_pos (show nI (L0 + cnt (nz5 a b c d e) 20) ≤ 300 from nI_le (b := 300) g (by omega)), bd_s a1, bd_s a2, bd_s a3, bd_s a4, bd_s a5]
    refine loop ?_
    rw [if_neg (show ¬ (300 : Int32) < nI (L0 + cnt (nz5 a b c d e) 20) from nI_nlt (a := 300) g (by omega))]
    unfold fX7_append_J68
    rw [eX7_fails_1, Option.bind_some]
    dsimp only
    rw [if_pos (rfl : (0 : Int32) = 0)]
    refine lp_inv (fun k v => v.1 = nI k ∧ TL L0 B (fm (nz5 a b c d e) (by5 a b c d e) k) v.2.2 v.2.1) _ 20 ?_ (fun k v hk hI => Or.inl ?_) (fun v hI => ?_) (lpN_gt (by omega))
    · exact ⟨rfl, t2, fun k hk => (t3 k hk).2.1, fun k hk => absurd hk (Nat.not_lt_zero k)⟩
    · obtain ⟨v1, v2, v3⟩ := v
      obtain ⟨h1, h2⟩ := hI
      dsimp only at h1 h2
      subst h1
      unfold fX7_append_L80
      dsimp only
      rw [if_neg (show ¬ (20 : Int32) ≤ nI k from nI_ge (b := 20) hk (by omega)), bd_s (eX7_byteOf a b c d e hk), nz5_if, p_s1, fm_s]
      by_cases q : nz5 a b c d e k = true
      · have hlen : L0 + (fm (nz5 a b c d e) (by5 a b c d e) k).length < 300 := by
          have := cnt_lt hk q
          rw [fm_len]
          omega
        obtain ⟨c1, c2⟩ := TL_add h2 hlen (by5 a b c d e k)
        rw [if_pos q, if_pos q, ck_t c1]
        exact ⟨_, rfl, rfl, c2⟩
      · rw [if_neg q, if_neg q]
        exact ⟨_, rfl, rfl, h2⟩
    · obtain ⟨v1, v2, v3⟩ := v
      obtain ⟨h1, h2⟩ := hI
      dsimp only at h1 h2
      subst h1
      unfold fX7_append_L80
      dsimp only
      rw [if_pos (show (20 : Int32) ≤ nI 20 from nI_le (a := 20) (Nat.le_refl 20) (by omega))]
      refine ⟨_, rfl, sk_ir, rfl, sk_vr (h2.1.trans b5.1.symm), n, m, F, hv, hi, hl, hN, hL, hH, hS, ?_⟩
      exact TxR_TL (L0 := L0) (B := B) (L := fm (nz5 a b c d e) (by5 a b c d e) 20) (by rw [fm_len]; exact g) (fun k hk => (t3 k hk).2.2) (fun s hs => by
        obtain ⟨j, _, _, rfl⟩ := mem_fm hs
        exact byw_lt _ _) b5 h2
  · rw [if_neg (show ¬ nI (L0 + cnt (nz5 a b c d e) 20) ≤ 300 from nI_ge (a := 300) (by omega) (by omega))]
    refine loop ?_
    rw [if_pos (show (300 : Int32) < nI (L0 + cnt (nz5 a b c d e) 20) from nI_lt (a := 300) (by omega) (by omega))]
    unfold fX7_append_J68
    rw [eX7_fails_0, Option.bind_some]
    exact ⟨_, if_neg n10, sk_il rfl, hc_0.symm, sk_vl, n, m, F, hv, hi, hl, hN, hL, hH, hS, hT⟩
theorem sk_1 (h : Rel o r) (x : Int32) : SK_1 Rel o r x := by
  obtain ⟨n, m, F, hv, hi, hl, hN, hL, hH, hS, hT⟩ := h
  obtain ⟨L, B, hL0, t1, t2, t3⟩ := id hT
  unfold SK_1 fX6_truncate fX7_truncate
  rw [t1, t2, ifle x (by omega), bd_s (eX7_inN x (by omega))]
  rcases bool_ft (okI x (L + 1)) with hx | hx
  · rw [if_bf hx, bd_s (eX7_fails_f _ hx 1)]
    exact ⟨(.inl 1, _), _, rfl, if_neg n10, sk_il rfl, hc_1.symm, sk_vl, n, m, F, hv, hi, hl, hN, hL, hH, hS, hT⟩
  · obtain ⟨k, hk, rfl⟩ := okI_of hx (by omega)
    rw [if_pos hx, bd_s (eX7_fails_t _ hx 1)]
    exact ⟨_, _, rfl, if_pos rfl, sk_ir, rfl, sk_vr rfl, n, m, F, hv, hi, hl, hN, hL, hH, hS, k, B, by omega, rfl, rfl, fun j hj => t3 j (by omega)⟩
end AP

/-! the reference: images of sets, how often a point is in a facet, whether the images are the facets -/
def ceq (A : Nat → Nat) (v m : Nat) : Nat := cnt (fun f => Nat.beq (A f) v) m
theorem count_lsM (A : Nat → Nat) (v : Nat) : ∀ m, (lsM A m).count v = ceq A v m := by
  intro m
  induction m with
  | zero => rfl
  | succ m ih =>
    have e : lsM A (m + 1) = lsM A m ++ [A m] := map_s A m
    rw [e, List.count_append, ih, List.count_singleton]
    unfold ceq
    rw [cnt_s]
    by_cases g : A m = v
    · rw [if_pos (beq_t.mpr g), if_pos (beq_iff_eq.mpr g)]
    · rw [if_bf (nbeq_f g), if_neg (fun z => g (beq_iff_eq.mp z))]; rfl
theorem perm_ceq {A C : Nat → Nat} {m : Nat} : (lsM A m).Perm (lsM C m) ↔ ∀ v, ceq A v m = ceq C v m := by
  rw [List.perm_iff_count]
  constructor
  · intro h v
    have := h v
    rw [count_lsM, count_lsM] at this
    exact this
  · intro h v
    rw [count_lsM, count_lsM]
    exact h v
theorem cnt_up {P Q : Nat → Bool} {j : Nat} (hj : P j = false) (hq : Q j = true) (h : ∀ t, t ≠ j → Q t = P t) : ∀ k, cnt Q k = cnt P k + if j < k then 1 else 0 := by
  intro k
  induction k with
  | zero => rfl
  | succ k ih =>
    rw [cnt_s, cnt_s, ih]
    by_cases e : j = k
    · subst e
      rw [if_pos hq, if_bf hj, if_neg (by omega : ¬ j < j), if_pos (by omega : j < j + 1)]
    · rw [h k (fun z => e z.symm)]
      by_cases g : j < k
      · rw [if_pos g, if_pos (by omega : j < k + 1)]
        split <;> omega
      · rw [if_neg g, if_neg (by omega : ¬ j < k + 1)]
        split <;> omega
theorem cnt_full {P : Nat → Bool} : ∀ k, cnt P k = k → ∀ t, t < k → P t = true := by
  intro k
  induction k with
  | zero => intro _ t ht; exact absurd ht (Nat.not_lt_zero t)
  | succ k ih =>
    intro h t ht
    have h1 := cnt_le P k
    rw [cnt_s] at h
    by_cases g : P k = true
    · rw [if_pos g] at h
      by_cases e : t = k
      · rw [e]; exact g
      · exact ih (by omega) t (by omega)
    · rw [if_neg g] at h
      omega
section CNV
variable {n m : Nat} {F G : Nat → Nat} {x : Nat → Nat} {o : OX7}
theorem eX7_mapped (hn : n ≤ 8) (hN : NowR n m F (q7_now o)) (hg : ∀ p, p < n → q7_goes o p = nI (x p)) (hx : ∀ p, p < n → x p < n) {s : Nat} (hs : s < 256) : fX7_mapped o (nI s) = some (nI (mpS n x s)) := by
  unfold fX7_mapped
  refine lp_go (fun k => (nI (mpS k x s), nI k)) n (fun k hk => ?_) ?_ (lpN_gt (by omega))
  · have hxk := hx k hk
    unfold fX7_mapped_L4
    dsimp only
    rw [hN.n, if_neg (nI_ge hk (by omega)), bd_s (eX7_has (by omega) (by omega)), mpS_s]
    rcases bool_ft (s.testBit k) with b | b
    · rw [if0_f b, if_bf b, Int32.or_zero, p_s1]
    · rw [if0_t b, if_pos b, ck_t (p_ok (by omega) (by decide)), p_ix (by omega), hg k hk, p_shl1 (by omega), p_or, p_s1]
  · unfold fX7_mapped_L4
    dsimp only
    rw [hN.n, if_pos (nI_le (Nat.le_refl n) (by omega))]
    rfl
theorem eX7_often {g : Nat → Int32} (hm : m ≤ 10) (hN : NowR n m F g) (hF : ∀ f, f < m → F f < 256) {p : Nat} (hp : p < 8) : fX7_often g (nI p) = some (nI (cnt (fun f => (F f).testBit p) m)) := by
  unfold fX7_often
  refine lp_go (fun k => (nI (cnt (fun f => (F f).testBit p) k), nI k)) m (fun k hk => ?_) ?_ (lpN_gt (by omega))
  · have hFk := hF k hk
    unfold fX7_often_L4
    dsimp only
    rw [hN.m, if_neg (nI_ge hk (by omega)), ck_t (ok12 (by omega)), hN.f hk hm, p_bit1 (by omega) (by omega), nI_add, p_s1, cnt_s]
    rcases bool_ft ((F k).testBit p) with b | b
    · rw [b]; rfl
    · rw [b]; rfl
  · unfold fX7_often_L4
    dsimp only
    rw [hN.m, if_pos (nI_le (Nat.le_refl m) (by omega))]
    rfl
/-- the places that are taken, and how the images so far stand to them -/
def TkI (m : Nat) (A G : Nat → Nat) (k u : Nat) : Prop := u < 2 ^ m ∧ cnt (fun j => u.testBit j) m = k ∧ ∀ v, ceq A v k = cnt (fun j => u.testBit j && Nat.beq (G j) v) m
theorem tkI_0 (A : Nat → Nat) : TkI m A G 0 0 := by
  have z : ∀ P : Nat → Bool, (∀ t, P t = false) → ∀ k, cnt P k = 0 := fun P hP k => by
    induction k with
    | zero => rfl
    | succ k ih => rw [cnt_s, if_bf (hP k), ih]
  refine ⟨p2_pos m, z _ (fun t => Nat.zero_testBit t) m, fun v => ?_⟩
  rw [z _ (fun t => by rw [Nat.zero_testBit]; rfl) m]; rfl
theorem TkI.add {A : Nat → Nat} {k u j : Nat} (h : TkI m A G k u) (hj : j < m) (hu : u.testBit j = false) (hA : G j = A k) : TkI m A G (k + 1) (u ||| 2 ^ j) := by
  have tb : ∀ t, (u ||| 2 ^ j).testBit t = (u.testBit t || decide (j = t)) := fun t => by rw [Nat.testBit_or, Nat.testBit_two_pow]
  have tj : (u ||| 2 ^ j).testBit j = true := by rw [tb, decide_eq_true rfl, Bool.or_true]
  have tn : ∀ t, t ≠ j → (u ||| 2 ^ j).testBit t = u.testBit t := fun t ht => by rw [tb, decide_eq_false (fun z => ht z.symm), Bool.or_false]
  refine ⟨or_p2 h.1 hj, ?_, fun v => ?_⟩
  · rw [cnt_up (P := fun j => u.testBit j) (j := j) hu tj tn m, h.2.1, if_pos hj]
  · have e : ceq A v (k + 1) = if Nat.beq (A k) v = true then ceq A v k + 1 else ceq A v k := rfl
    rw [e, h.2.2 v]
    by_cases g : A k = v
    · have hup := cnt_up (P := fun j => u.testBit j && Nat.beq (G j) v) (Q := fun t => (u ||| 2 ^ j).testBit t && Nat.beq (G t) v) (j := j) (by rw [hu, Bool.false_and]) (by rw [tj, beq_t.mpr (hA.trans g), Bool.and_true]) (fun t ht => by rw [tn t ht]) m
      rw [if_pos (beq_t.mpr g), hup, if_pos hj]
    · rw [if_bf (nbeq_f g)]
      refine cnt_congr fun t _ => ?_
      by_cases z : t = j
      · rw [z, hA, nbeq_f g, Bool.and_false, Bool.and_false]
      · rw [tn t z]
theorem TkI.full {A : Nat → Nat} {u : Nat} (h : TkI m A G m u) : (lsM A m).Perm (lsM G m) := perm_ceq.mpr fun v => by
  rw [h.2.2 v]
  refine cnt_congr fun t ht => ?_
  have hb : u.testBit t = true := cnt_full m h.2.1 t ht
  show (u.testBit t && Nat.beq (G t) v) = Nat.beq (G t) v
  rw [hb, Bool.true_and]
theorem TkI.none {A : Nat → Nat} {k u : Nat} (h : TkI m A G k u) (hk : k < m) (hn : ∀ j, j < m → u.testBit j = false → G j ≠ A k) : ¬ (lsM A m).Perm (lsM G m) := fun hp => by
  have h1 := perm_ceq.mp hp (A k)
  have h2 : ceq A (A k) (k + 1) ≤ ceq A (A k) m := cnt_mono _ hk
  have h3 : ceq A (A k) (k + 1) = ceq A (A k) k + 1 := if_pos (beq_t.mpr rfl)
  have h4 : ceq G (A k) m = cnt (fun j => u.testBit j && Nat.beq (G j) (A k)) m := cnt_congr fun t ht => by
    rcases bool_ft (u.testBit t) with b | b
    · rw [b, nbeq_f (hn t ht b)]; rfl
    · rw [b, Bool.true_and]
  rw [h.2.2 (A k)] at h3
  omega
theorem eX7_isMapped (hn : n ≤ 8) (hm : m ≤ 10) (hN : NowR n m F (q7_now o)) (hO : NowR n m G (q7_onto o)) (hF : ∀ f, f < m → F f < 2 ^ n) (hG : ∀ f, f < m → G f < 2 ^ n) (hg : ∀ p, p < n → q7_goes o p = nI (x p)) (hx : ∀ p, p < n → x p < n) : ∃ v, fX7_isMapped o = some v ∧ YN v ((lsM (fun f => mpS n x (F f)) m).Perm (lsM G m)) := by
  have h8 := p2_256 hn
  have hu8 : ∀ u, u < 2 ^ m → u < 2147483648 := fun u hu => Nat.lt_of_lt_of_le hu (Nat.le_trans (p2_lt (k := 10) hm) (by decide))
  unfold fX7_isMapped
  refine lp_inv (fun k v => ∃ u, v = (nI u, nI k) ∧ TkI m (fun f => mpS n x (F f)) G k u) _ m ⟨0, rfl, tkI_0 _⟩ (fun k v hk hI => ?_) (fun v hI => ?_) (lpN_gt (by omega))
  · obtain ⟨u, rfl, hu⟩ := hI
    have hFk := hF k hk
    have hmp := mpS_lt (s := F k) n hx
    have key : ∃ r, lp (fX7_isMapped_L30 o (nI u, nI k) (nI (mpS n x (F k)))) lpN 0 = some r ∧ ((∃ j, j < m ∧ u.testBit j = false ∧ G j = mpS n x (F k) ∧ r = .inl (nI (u ||| 2 ^ j), nI (k + 1))) ∨ ((∀ j, j < m → u.testBit j = false → G j ≠ mpS n x (F k)) ∧ r = .inr 0)) := by
      refine lp_inv (fun t v => v = nI t ∧ ∀ j, j < t → u.testBit j = false → G j ≠ mpS n x (F k)) _ m ⟨rfl, fun j hj => absurd hj (Nat.not_lt_zero j)⟩ (fun t v ht hI => ?_) (fun v hI => ?_) (lpN_gt (by omega))
      · obtain ⟨rfl, hI⟩ := hI
        have hGt := hG t ht
        unfold fX7_isMapped_L30
        dsimp only
        rw [hN.m, if_neg (nI_ge ht (by omega)), bd_s (eX7_has (hu8 u hu.1) (by omega))]
        rcases bool_ft (u.testBit t) with b | b
        · rw [if0_f b, ck_t (ok12 (by omega)), hO.f ht hm, ifq (by omega) (by omega)]
          by_cases g : G t = mpS n x (F k)
          · rw [if_pos g]
            unfold fX7_isMapped_J69
            dsimp only
            rw [hN.m, if_neg (show ¬ nI t = nI m from fun z => by have := (nI_eq (by omega) (by omega)).mp z; omega), p_shl1 (by omega), p_or, p_s1]
            exact Or.inr ⟨_, rfl, Or.inl ⟨t, ht, b, g, rfl⟩⟩
          · rw [if_neg g, p_s1]
            refine Or.inl ⟨_, rfl, rfl, fun j hj hb => ?_⟩
            by_cases z : j = t
            · rw [z]; exact g
            · exact hI j (by omega) hb
        · rw [if0_t b, p_s1]
          refine Or.inl ⟨_, rfl, rfl, fun j hj hb => ?_⟩
          by_cases z : j = t
          · rw [z, b] at hb
            exact absurd hb.symm Bool.false_ne_true
          · exact hI j (by omega) hb
      · obtain ⟨rfl, hI⟩ := hI
        unfold fX7_isMapped_L30 fX7_isMapped_J69
        dsimp only
        rw [hN.m, if_pos (nI_le (Nat.le_refl m) (by omega)), if_pos rfl]
        exact ⟨_, rfl, Or.inr ⟨hI, rfl⟩⟩
    obtain ⟨r, r1, r2⟩ := key
    unfold fX7_isMapped_L4
    dsimp only
    rw [hN.m, if_neg (nI_ge hk (by omega)), ck_t (ok12 (by omega)), hN.f hk hm, bd_s (eX7_mapped hn hN hg hx (by omega)), r1]
    rcases r2 with ⟨j, j1, j2, j3, rfl⟩ | ⟨j1, rfl⟩
    · exact Or.inl ⟨_, rfl, _, rfl, hu.add j1 j2 j3⟩
    · exact Or.inr ⟨_, rfl, Or.inr ⟨rfl, hu.none hk j1⟩⟩
  · obtain ⟨u, rfl, hu⟩ := hI
    unfold fX7_isMapped_L4
    dsimp only
    rw [hN.m, if_pos (nI_le (Nat.le_refl m) (by omega))]
    exact ⟨_, rfl, Or.inl ⟨rfl, hu.full⟩⟩
end CNV

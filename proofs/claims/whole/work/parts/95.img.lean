/-! the class: the images of one point -/
section IMG
variable {n m : Nat} {F od al : Nat → Nat}
/-- an automorphism within what is allowed that takes pt to t -/
def Im1 (n m : Nat) (F al : Nat → Nat) (pt t : Nat) : Prop := ∃ g, IsoF n m F F g ∧ (∀ p, p < n → (al p).testBit (g p) = true) ∧ g pt = t
theorem im1_up {pt t : Nat} (hpt : pt < n) (hb : (al pt).testBit t = true) : (∃ g, IsoF n m F F g ∧ ∀ p, p < n → (up1 al pt (2 ^ t) p).testBit (g p) = true) ↔ Im1 n m F al pt t := by
  constructor
  · rintro ⟨g, h1, h2⟩
    have h3 := h2 pt hpt
    rw [up1_at, Nat.testBit_two_pow, decide_eq_true_eq] at h3
    refine ⟨g, h1, fun p hp => ?_, h3.symm⟩
    by_cases e : p = pt
    · rw [e, ← h3]; exact hb
    · have h4 := h2 p hp
      rw [up1_ne _ _ e] at h4
      exact h4
  · rintro ⟨g, h1, h2, h3⟩
    refine ⟨g, h1, fun p hp => ?_⟩
    by_cases e : p = pt
    · rw [e, up1_at, h3]; exact Nat.testBit_two_pow_self
    · rw [up1_ne _ _ e]; exact h2 p hp
theorem eX4_imagesOf {o : OX4} {x : OX2} (hv : IncV n m F) (hx : IncR n m F x) (hod : IjN n od) (hal : ∀ i, i < n → al i < 256) (ho : ∀ i, i < n → q4_order o i = nI (od i)) (ha : ∀ i, i < n → q4_allowed o i = nI (al i)) {pt : Nat} (hpt : pt < n) : ∃ r, fX4_imagesOf o (nI pt) x = some r ∧ ((∃ s, r.1 = nI s ∧ s < 2 ^ n ∧ ∀ t, s.testBit t = true ↔ t < n ∧ Im1 n m F al pt t) ∧ ∀ i, i < n → i ≠ pt → q4_allowed r.2 i = nI (al i)) := by
  have hn := hv.2.1
  have h8 := p2_256 hn
  have hok : okI (nI pt) 8 = true := p_ok (by omega) (by decide)
  have halp := hal pt hpt
  unfold fX4_imagesOf
  rw [ck_t hok]
  refine lp_inv (fun k v => (∃ s, v.1 = nI s ∧ s < 2 ^ n ∧ ∀ t, s.testBit t = true ↔ t < k ∧ Im1 n m F al pt t) ∧ v.2.1 = nI k ∧ ∀ i, i < n → i ≠ pt → v.2.2.2.1 i = nI (al i)) _ n ⟨⟨0, rfl, p2_pos n, fun t => ⟨fun z => by rw [Nat.zero_testBit] at z; exact absurd z Bool.false_ne_true, fun z => absurd z.1 (Nat.not_lt_zero t)⟩⟩, rfl, fun i hi _ => ha i hi⟩ (fun k v hk hI => Or.inl ?_) (fun v hI => ?_) (lpN_gt (by omega))
  · obtain ⟨vs, vk, vi, va, vtr, vtt, vta⟩ := v
    obtain ⟨⟨s, g1, g2, g3⟩, g4, g5⟩ := hI
    dsimp only at g1 g4 g5
    subst g1
    subst g4
    have hcond : (upd va (ix (nI pt)) (q4_allowed o (ix (nI pt)) &&& jshl 1 (nI k)) (ix (nI pt)) = 0) ↔ (al pt).testBit k = false := by
      rw [upd_at, p_ix (by omega), ha pt hpt, p_shl1 (by omega), p_and, and_p2]
      rcases bool_ft ((al pt).testBit k) with b | b
      · rw [if_bf b, b]
        exact ⟨fun _ => rfl, fun _ => rfl⟩
      · rw [if_pos b, b, p_eq0 (Nat.lt_of_le_of_lt (p2_lt (k := 8) (by omega)) (by decide))]
        exact ⟨fun z => absurd z (Nat.ne_of_gt (p2_pos k)), fun z => Bool.noConfusion z⟩
    have hskip : (¬ Im1 n m F al pt k) → ∀ t, s.testBit t = true ↔ t < k + 1 ∧ Im1 n m F al pt t := fun hno t => by
      rw [g3 t]
      constructor
      · rintro ⟨a, b⟩; exact ⟨by omega, b⟩
      · rintro ⟨a, b⟩
        by_cases e : t = k
        · rw [e] at b; exact absurd b hno
        · exact ⟨by omega, b⟩
    have hput : Im1 n m F al pt k → ∀ t, (s ||| 2 ^ k).testBit t = true ↔ t < k + 1 ∧ Im1 n m F al pt t := fun hyes t => by
      rw [Nat.testBit_or, Nat.testBit_two_pow, Bool.or_eq_true, decide_eq_true_eq, g3 t]
      constructor
      · rintro (⟨a, b⟩ | a)
        · exact ⟨by omega, b⟩
        · rw [← a]; exact ⟨by omega, hyes⟩
      · rintro ⟨a, b⟩
        by_cases e : t = k
        · exact Or.inr e.symm
        · exact Or.inl ⟨by omega, b⟩
    have hup : ∀ i, i < n → i ≠ pt → upd va pt (nI (al pt) &&& nI (2 ^ k)) i = nI (al i) := fun i hi hne => (upd_ne _ _ hne).trans (g5 i hi hne)
    unfold fX4_imagesOf_L13
    dsimp only
    rw [hx.1, if_neg (nI_ge hk (by omega)), ck_t hok, ck_t hok]
    rcases bool_ft ((al pt).testBit k) with b | b
    · rw [if_pos (hcond.mpr b), p_ix (by omega), ha pt hpt, p_shl1 (by omega), p_s1]
      refine ⟨_, rfl, ⟨s, rfl, g2, hskip fun z => ?_⟩, rfl, hup⟩
      obtain ⟨g, z1, z2, z3⟩ := z
      have := z2 pt hpt
      rw [z3, b] at this
      exact Bool.noConfusion this
    · have e1 : nI (al pt) &&& nI (2 ^ k) = nI (2 ^ k) := by rw [p_and, and_p2, if_pos b]
      rw [if_neg (mt hcond.mp (fun z => Bool.noConfusion (b.symm.trans z))), p_ix (by omega), ha pt hpt, p_shl1 (by omega), p_s1, p_or]
      refine bd_in (eX4_searchS (od := od) (al := up1 al pt (2 ^ k)) hv hx hod (fun i hi => ?_) (by exact ho) (fun i hi => ?_)) (fun w hw => ?_)
      · unfold up1
        split
        · exact Nat.lt_of_lt_of_le (Nat.pow_lt_pow_right (by decide) hk) h8
        · exact hal i hi
      · show upd va pt (nI (al pt) &&& nI (2 ^ k)) i = nI (up1 al pt (2 ^ k) i)
        by_cases e : i = pt
        · rw [e, upd_at, up1_at]; exact e1
        · rw [up1_ne _ _ e]; exact hup i hi e
      · have hw' := hw.cg (im1_up hpt b)
        rcases hw' with ⟨w1, w2⟩ | ⟨w1, w2⟩
        · rw [w1, if_neg n10]
          exact ⟨_, rfl, ⟨s ||| 2 ^ k, rfl, or_p2 g2 hk, hput w2⟩, rfl, hup⟩
        · rw [w1, if_pos (rfl : (0 : Int32) = 0)]
          exact ⟨_, rfl, ⟨s, rfl, g2, hskip w2⟩, rfl, hup⟩
  · obtain ⟨vs, vk, vi, va, vtr, vtt, vta⟩ := v
    obtain ⟨⟨s, g1, g2, g3⟩, g4, g5⟩ := hI
    dsimp only at g1 g4 g5
    subst g1
    subst g4
    unfold fX4_imagesOf_L13
    dsimp only
    rw [hx.1, if_pos (nI_le (Nat.le_refl n) (by omega))]
    exact ⟨_, rfl, ⟨s, rfl, g2, g3⟩, g5⟩
theorem foldl_tb (g t : Nat) : ∀ (T : List (List Nat)) (a : Nat), (T.foldl (fun a l => a ||| 2 ^ l.getD g 0) a).testBit t = true ↔ a.testBit t = true ∨ ∃ l, l ∈ T ∧ l.getD g 0 = t := by
  intro T
  induction T with
  | nil =>
    intro a
    exact ⟨Or.inl, fun h => h.elim (fun z => z) (fun ⟨l, h1, _⟩ => absurd h1 List.not_mem_nil)⟩
  | cons b T ih =>
    intro a
    refine (ih _).trans ?_
    rw [Nat.testBit_or, Nat.testBit_two_pow, Bool.or_eq_true, decide_eq_true_eq]
    constructor
    · rintro ((h | h) | ⟨l, h1, h2⟩)
      · exact Or.inl h
      · exact Or.inr ⟨b, List.mem_cons_self, h⟩
      · exact Or.inr ⟨l, List.mem_cons_of_mem _ h1, h2⟩
    · rintro (h | ⟨l, h1, h2⟩)
      · exact Or.inl (Or.inl h)
      · rcases List.mem_cons.mp h1 with e | e
        · rw [← e]; exact Or.inl (Or.inr h2)
        · exact Or.inr ⟨l, e, h2⟩
theorem tb_orS (g : Nat) (T : List (List Nat)) (t : Nat) : (orS g T).testBit t = true ↔ ∃ l, l ∈ T ∧ l.getD g 0 = t := by
  refine (foldl_tb g t T 0).trans ⟨fun h => h.elim (fun z => ?_) (fun z => z), Or.inr⟩
  rw [Nat.zero_testBit] at z
  exact absurd z Bool.false_ne_true
theorem isoT_self : isoT n m F n m F = elS (isoB n m F F) n n [] := by
  unfold isoT
  rw [if_pos rfl, if_pos rfl]
theorem eX4_imagesOnto {o : OX4} {x : OX2} (hv : IncV n m F) (hx : IncR n m F x) {pt : Nat} (hpt : pt < n) : ∃ r, fX4_imagesOnto o x (nI pt) = some r ∧ r.1 = nI (orS pt (isoT n m F n m F)) := by
  have hn := hv.2.1
  have h8 := p2_256 hn
  have hal : ∀ p, p < n → alk (sgL (lsM F m)) (sgL (lsM F m) p) n < 256 := fun p _ => by
    have := alk_lt (sgL (lsM F m)) (sgL (lsM F m) p) n
    omega
  unfold fX4_imagesOnto
  refine bd_ex (eX4_begin (z := pt) hv hv hx hx hpt) (fun b hb => ?_)
  obtain ⟨b1, b2, b3⟩ := hb
  refine bd_ex (eX4_imagesOf (od := odF pt) (al := fun p => alk (sgL (lsM F m)) (sgL (lsM F m) p) n) hv hx (odF_ij hpt) hal (by exact b1) (by exact b2) hpt) (fun w hw => ?_)
  obtain ⟨⟨s, w1, w2, w3⟩, _⟩ := hw
  refine ⟨_, rfl, ?_⟩
  show w.1 = _
  rw [w1]
  refine congrArg nI (tb_ext fun t => ?_)
  rw [w3 t, tb_orS, isoT_self]
  constructor
  · rintro ⟨_, g, z1, z2, z3⟩
    exact ⟨_, iso_mem z1, by rw [lfn_at _ n pt hpt]; exact z3⟩
  · rintro ⟨l, z1, z2⟩
    have z3 := (mem_iso z1).1
    refine ⟨by rw [← z2]; exact z3.1.1 pt hpt, xl l, z3, fun p hp => alk_iso hn hv.2.2.2 z3 hp, z2⟩
end IMG

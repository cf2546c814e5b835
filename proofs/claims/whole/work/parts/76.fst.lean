/-! the first statement, read on both sides -/
section FS1
variable {L : Nat} {B : Nat → Nat}
def SzOk (B : Nat → Nat) (lo hi k s e : Nat) : Prop := NumOk k s e ∧ lo ≤ dv B s (e - s) ∧ dv B s (e - s) ≤ hi
theorem eX7_takeSize {r : OX7} (hL : L ≤ 300) (hB : ∀ j, j < L → B j < 256) {k s e : Nat} (hc : RS L B r k s e) {k1 s1 e1 k2 s2 e2 : Nat} (h1 : Tok L B e k1 s1 e1) (h2 : Tok L B e1 k2 s2 e2) {lo hi : Nat} (hlo : lo ≤ hi) (hhi : hi < 2147483648) : ∃ y, fX7_takeSize r (nI lo) (nI hi) = some y ∧ ∃ v, y.1 = nI v ∧ lo ≤ v ∧ v ≤ hi ∧ ((SzOk B lo hi k1 s1 e1 ∧ v = dv B s1 (e1 - s1) ∧ T7 B y.2 k2 s2 e2 ∧ q7_wrong y.2 = -1) ∨ (¬ SzOk B lo hi k1 s1 e1 ∧ q7_wrong y.2 = nI s1)) := by
  obtain ⟨ht, h3, hwr⟩ := hc
  obtain ⟨z, z1, z2⟩ := eX7_step hL hB ht h3.2.2.1 h1
  have hc2 : RS L B (s7_number (s7_kind (s7_from (s7_at r (q7_at z)) (q7_from z)) (q7_kind z)) (q7_number z)) k1 s1 e1 := ⟨ht, z2, hwr⟩
  obtain ⟨t1, t2⟩ := eX7_takeNumber hL hB hc2 ⟨e, h1⟩ (lo := lo) (hi := hi) (by omega) hhi
  unfold fX7_takeSize
  rw [bd_s z1]
  by_cases g : SzOk B lo hi k1 s1 e1
  · obtain ⟨w, w1, w2, w3⟩ := t1 g k2 s2 e2 h2
    rw [bd_s w1]
    exact ⟨_, rfl, _, rfl, g.2.1, g.2.2, Or.inl ⟨g, rfl, w2, w3⟩⟩
  · obtain ⟨w, w1, w2⟩ := t2 g
    rw [bd_s w1]
    exact ⟨_, rfl, _, rfl, Nat.le_refl lo, hlo, Or.inr ⟨g, w2⟩⟩
theorem bd_ex2 {α β : Type} {x : Option α} {k : α → Option β} {P : α → Prop} {Q : β → Prop} (h : ∃ r, x = some r ∧ P r) (g : ∀ r, P r → ∃ y, k r = some y ∧ Q y) : ∃ y, x.bind k = some y ∧ Q y := bd_ex h g
def RfP (B : Nat → Nat) (i k1 s1 e1 k2 s2 e2 : Nat) (z : OX7) : Prop := (SzOk B (shA i) (shZ i) k1 s1 e1 ∧ T7 B z k2 s2 e2 ∧ q7_wrong z = -1 ∧ MadeL (shN i (dv B s1 (e1 - s1))) (shL i (dv B s1 (e1 - s1))) (q7_made z)) ∨ (¬ SzOk B (shA i) (shZ i) k1 s1 e1 ∧ q7_wrong z = nI s1)
theorem eX7_readFirst_i {r : OX7} (hL : L ≤ 300) (hB : ∀ j, j < L → B j < 256) {k s e : Nat} (hc : RS L B r k s e) {k1 s1 e1 k2 s2 e2 : Nat} (h1 : Tok L B e k1 s1 e1) (h2 : Tok L B e1 k2 s2 e2) : (fX7_isWord r 0 = some 1 → ∃ z, fX7_readFirst r = some z ∧ RfP B 0 k1 s1 e1 k2 s2 e2 z) ∧ (fX7_isWord r 0 = some 0 → fX7_isWord r 1 = some 1 → ∃ z, fX7_readFirst r = some z ∧ RfP B 1 k1 s1 e1 k2 s2 e2 z) ∧ (fX7_isWord r 0 = some 0 → fX7_isWord r 1 = some 0 → fX7_isWord r 2 = some 1 → ∃ z, fX7_readFirst r = some z ∧ RfP B 2 k1 s1 e1 k2 s2 e2 z) ∧ (fX7_isWord r 0 = some 0 → fX7_isWord r 1 = some 0 → fX7_isWord r 2 = some 0 → fX7_isWord r 3 = some 1 → ∃ z, fX7_readFirst r = some z ∧ RfP B 3 k1 s1 e1 k2 s2 e2 z) ∧ (fX7_isWord r 0 = some 0 → fX7_isWord r 1 = some 0 → fX7_isWord r 2 = some 0 → fX7_isWord r 3 = some 0 → fX7_isWord r 4 = some 1 → ∃ z, fX7_readFirst r = some z ∧ RfP B 4 k1 s1 e1 k2 s2 e2 z) := by
  unfold fX7_readFirst
  refine ⟨fun w0 => ?_, fun w0 w1 => ?_, fun w0 w1 w2 => ?_, fun w0 w1 w2 w3 => ?_, fun w0 w1 w2 w3 w4 => ?_⟩
  · rw [bd_s w0, if_neg n10]
    refine bd_ex (eX7_takeSize hL hB hc h1 h2 (lo := 1) (hi := 8) (by decide) (by decide)) (fun y hy => ?_)
    obtain ⟨v, v1, v2, v3, v4⟩ := hy
    rw [v1]
    refine bd_ex (eX7_beginE _ v) (fun u hu => ?_)
    rcases v4 with ⟨g1, g2, g3, g4⟩ | ⟨g1, g2⟩
    · subst g2
      exact ⟨_, rfl, Or.inl ⟨g1, g3, g4, hu⟩⟩
    · exact ⟨_, rfl, Or.inr ⟨g1, g2⟩⟩
  · rw [bd_s w0, if_pos rfl, bd_s w1, if_neg n10]
    refine bd_ex (eX7_takeSize hL hB hc h1 h2 (lo := 2) (hi := 8) (by decide) (by decide)) (fun y hy => ?_)
    obtain ⟨v, v1, v2, v3, v4⟩ := hy
    rw [v1]
    refine bd_ex (eX7_makeSimplex v3 _) (fun u hu => ?_)
    rcases v4 with ⟨g1, g2, g3, g4⟩ | ⟨g1, g2⟩
    · subst g2
      exact ⟨_, rfl, Or.inl ⟨g1, g3, g4, hu⟩⟩
    · exact ⟨_, rfl, Or.inr ⟨g1, g2⟩⟩
  · rw [bd_s w0, if_pos rfl, bd_s w1, if_pos rfl, bd_s w2, if_neg n10]
    refine bd_ex (eX7_takeSize hL hB hc h1 h2 (lo := 3) (hi := 8) (by decide) (by decide)) (fun y hy => ?_)
    obtain ⟨v, v1, v2, v3, v4⟩ := hy
    rw [v1]
    refine bd_ex (eX7_makeCycle v3 _) (fun u hu => ?_)
    rcases v4 with ⟨g1, g2, g3, g4⟩ | ⟨g1, g2⟩
    · subst g2
      exact ⟨_, rfl, Or.inl ⟨g1, g3, g4, hu⟩⟩
    · exact ⟨_, rfl, Or.inr ⟨g1, g2⟩⟩
  · rw [bd_s w0, if_pos rfl, bd_s w1, if_pos rfl, bd_s w2, if_pos rfl, bd_s w3, if_neg n10]
    refine bd_ex (eX7_takeSize hL hB hc h1 h2 (lo := 1) (hi := 3) (by decide) (by decide)) (fun y hy => ?_)
    obtain ⟨v, v1, v2, v3, v4⟩ := hy
    rw [v1]
    refine bd_ex (eX7_makeCube v3 _) (fun u hu => ?_)
    rcases v4 with ⟨g1, g2, g3, g4⟩ | ⟨g1, g2⟩
    · subst g2
      exact ⟨_, rfl, Or.inl ⟨g1, g3, g4, hu⟩⟩
    · exact ⟨_, rfl, Or.inr ⟨g1, g2⟩⟩
  · rw [bd_s w0, if_pos rfl, bd_s w1, if_pos rfl, bd_s w2, if_pos rfl, bd_s w3, if_pos rfl, bd_s w4, if_neg n10]
    refine bd_ex (eX7_takeSize hL hB hc h1 h2 (lo := 1) (hi := 3) (by decide) (by decide)) (fun y hy => ?_)
    obtain ⟨v, v1, v2, v3, v4⟩ := hy
    rw [v1]
    refine bd_ex (eX7_makeCross v3 _) (fun u hu => ?_)
    rcases v4 with ⟨g1, g2, g3, g4⟩ | ⟨g1, g2⟩
    · subst g2
      exact ⟨_, rfl, Or.inl ⟨g1, g3, g4, hu⟩⟩
    · exact ⟨_, rfl, Or.inr ⟨g1, g2⟩⟩
theorem tLs : ∀ i, i < 5 → tLeast (ix (nI i)) = nI (shA i) ∧ tMost (ix (nI i)) = nI (shZ i) ∧ 1 ≤ shA i ∧ shA i ≤ 3 ∧ shZ i ≤ 8 := by decide
theorem m1_lt {a : Nat} (h : a < 2147483648) : (-1 : Int32) < nI a := by
  rw [Int32.lt_iff_toInt_lt, nI_toInt h]
  have : (-1 : Int32).toInt = -1 := by decide
  omega
theorem eX5_readShape_i {t : OX5} (o1 : OX2) (hL : L ≤ 300) (hB : ∀ j, j < L → B j < 256) {k s e : Nat} (hc : CS L B t k s e) {k1 s1 e1 k2 s2 e2 : Nat} (h1 : Tok L B e k1 s1 e1) (h2 : Tok L B e1 k2 s2 e2) {i : Nat} (hi : i < 5) (hsh : fX5_shapeHere t = some (nI i)) : ∃ z, fX5_readShape t o1 = some z ∧ TB L B z.2.1 ∧ ((SzOk B (shA i) (shZ i) k1 s1 e1 ∧ z.1 = 1 ∧ T5 z.2.1 k2 s2 e2 ∧ IncL (shN i (dv B s1 (e1 - s1))) (shL i (dv B s1 (e1 - s1))) z.2.2) ∨ (¬ SzOk B (shA i) (shZ i) k1 s1 e1 ∧ z.1 = 0 ∧ q5_start z.2.1 = nI s1)) := by
  obtain ⟨ht, h3⟩ := hc
  obtain ⟨z, z1, z2⟩ := eX5_advance hL hB ht h3.2.2 h1
  obtain ⟨n1, n2⟩ := eX5_numberHere (t := s5_end (s5_start (s5_kind t (q5_kind z)) (q5_start z)) (q5_end z)) hL hB ⟨ht, z2⟩ ⟨e, h1⟩
  obtain ⟨a1, a2, a3, a4, a5⟩ := tLs i hi
  have oki : okI (nI i) 5 = true := p_ok hi (by decide)
  have hne : ¬ nI i = -1 := by rw [p_nm1 (by omega)]; exact id
  unfold fX5_readShape
  rw [bd_s hsh, if_neg hne, bd_s z1]
  by_cases g : NumOk k1 s1 e1
  · have hlt := numOk_lt ⟨e, h1⟩ g
    rw [bd_s (n1 g), ck_t oki, ck_t oki, a1, a2]
    by_cases g1 : dv B s1 (e1 - s1) < shA i
    · rw [if_pos (show nI (dv B s1 (e1 - s1)) < nI (shA i) from nI_lt g1 (by omega))]
      exact ⟨_, rfl, ht, Or.inr ⟨fun q => by have := q.2.1; omega, rfl, z2.2.1⟩⟩
    · rw [if_neg (show ¬ nI (dv B s1 (e1 - s1)) < nI (shA i) from nI_nlt (by omega) (by omega))]
      by_cases g2 : dv B s1 (e1 - s1) ≤ shZ i
      · obtain ⟨y, y1, y2⟩ := eX5_lay hi g2 o1
        obtain ⟨w, w1, w2⟩ := eX5_advance (t := s5_end (s5_start (s5_kind t (q5_kind z)) (q5_start z)) (q5_end z)) hL hB ht z2.2.2 h2
        rw [if_pos (show nI (dv B s1 (e1 - s1)) ≤ nI (shZ i) from nI_le g2 (by omega)), bd_s y1, bd_s w1]
        exact ⟨_, rfl, ht, Or.inl ⟨⟨g, by omega, g2⟩, rfl, w2, y2⟩⟩
      · rw [if_neg (show ¬ nI (dv B s1 (e1 - s1)) ≤ nI (shZ i) from nI_ge (by omega) (by omega))]
        exact ⟨_, rfl, ht, Or.inr ⟨fun q => g2 q.2.2, rfl, z2.2.1⟩⟩
  · rw [bd_s (n2 g), ck_t oki, a1, if_pos (m1_lt (by omega))]
    exact ⟨_, rfl, ht, Or.inr ⟨fun q => g q.1, rfl, z2.2.1⟩⟩
/-- the first statement on both sides: the same place is wrong, or both are at the same token with the same incidences -/
def FsP (L : Nat) (B : Nat → Nat) (z : Int32 × OX5 × OX2) (w : OX7) : Prop := (z.1 = 0 ∧ ∃ x, x ≤ L ∧ q5_start z.2.1 = nI x ∧ q7_wrong w = nI x) ∨ (z.1 = 1 ∧ ∃ k s e n l, TB L B z.2.1 ∧ T5 z.2.1 k s e ∧ T7 B w k s e ∧ q7_wrong w = -1 ∧ TkP L B k s e ∧ 1 ≤ n ∧ n ≤ 8 ∧ List.length l ≤ 10 ∧ (∀ a, a ∈ l → a < 2 ^ n) ∧ IncL n l z.2.2 ∧ MadeL n l (q7_made w))
theorem first_both {t : OX5} {r : OX7} (o1 : OX2) (hL : L ≤ 300) (hB : ∀ j, j < L → B j < 256) {k s e : Nat} (hc : CS L B t k s e) (hr : RS L B r k s e) (h : TkP L B k s e) : ∃ z w, fX5_readShape t o1 = some z ∧ fX7_readFirst r = some w ∧ FsP L B z w := by
  obtain ⟨l1, l2, l3⟩ := h.le
  obtain ⟨k1, s1, e1, h1⟩ := tok_ex L B l2
  have hk1 : TkP L B k1 s1 e1 := ⟨e, h1⟩
  obtain ⟨l4, l5, l6⟩ := hk1.le
  obtain ⟨k2, s2, e2, h2⟩ := tok_ex L B l5
  have fin : ∀ i, i < 5 → fX5_shapeHere t = some (nI i) → (∃ w, fX7_readFirst r = some w ∧ RfP B i k1 s1 e1 k2 s2 e2 w) → ∃ z w, fX5_readShape t o1 = some z ∧ fX7_readFirst r = some w ∧ FsP L B z w := fun i hi hsh hw => by
    obtain ⟨w, w1, w2⟩ := hw
    obtain ⟨z, z1, z2, z3⟩ := eX5_readShape_i o1 hL hB hc h1 h2 hi hsh
    refine ⟨z, w, z1, w1, ?_⟩
    rcases z3 with ⟨a1, a2, a3, a4⟩ | ⟨a1, a2, a3⟩
    · rcases w2 with ⟨b1, b2, b3, b4⟩ | ⟨b1, b2⟩
      · obtain ⟨v1, v2, v3, v4⟩ := sh_V hi a1.2.1 a1.2.2
        exact Or.inr ⟨a2, k2, s2, e2, _, _, z2, a3, b2, b3, ⟨e1, h2⟩, v1, v2, by omega, v4, a4, b4⟩
      · exact absurd a1 b1
    · rcases w2 with ⟨b1, b2, b3, b4⟩ | ⟨b1, b2⟩
      · exact absurd b1 a1
      · exact Or.inl ⟨a2, s1, by omega, a3, b2⟩
  obtain ⟨f0, f1, f2, f3, f4⟩ := eX7_readFirst_i hL hB hr h1 h2
  obtain ⟨v0, p0, q0⟩ := eX5_isHere hL hc h (w := 0) (by decide)
  obtain ⟨v1, p1, q1⟩ := eX5_isHere hL hc h (w := 1) (by decide)
  obtain ⟨v2, p2, q2⟩ := eX5_isHere hL hc h (w := 2) (by decide)
  obtain ⟨v3, p3, q3⟩ := eX5_isHere hL hc h (w := 3) (by decide)
  obtain ⟨v4, p4, q4⟩ := eX5_isHere hL hc h (w := 4) (by decide)
  obtain ⟨u0, a0, b0⟩ := eX7_isWord hL hr h (w := 0) (by decide)
  obtain ⟨u1, a1, b1⟩ := eX7_isWord hL hr h (w := 1) (by decide)
  obtain ⟨u2, a2, b2⟩ := eX7_isWord hL hr h (w := 2) (by decide)
  obtain ⟨u3, a3, b3⟩ := eX7_isWord hL hr h (w := 3) (by decide)
  obtain ⟨u4, a4, b4⟩ := eX7_isWord hL hr h (w := 4) (by decide)
  have e0 := q0.eq b0
  have e1' := q1.eq b1
  have e2' := q2.eq b2
  have e3 := q3.eq b3
  have e4 := q4.eq b4
  subst e0 e1' e2' e3 e4
  rcases q0 with ⟨rfl, q0⟩ | ⟨rfl, q0⟩
  · refine fin 0 (by decide) ?_ (f0 a0)
    unfold fX5_shapeHere
    rw [bd_s p0, if_neg n10]; rfl
  · rcases q1 with ⟨rfl, q1⟩ | ⟨rfl, q1⟩
    · refine fin 1 (by decide) ?_ (f1 a0 a1)
      unfold fX5_shapeHere
      rw [bd_s p0, if_pos rfl, bd_s p1, if_neg n10]; rfl
    · rcases q2 with ⟨rfl, q2⟩ | ⟨rfl, q2⟩
      · refine fin 2 (by decide) ?_ (f2 a0 a1 a2)
        unfold fX5_shapeHere
        rw [bd_s p0, if_pos rfl, bd_s p1, if_pos rfl, bd_s p2, if_neg n10]; rfl
      · rcases q3 with ⟨rfl, q3⟩ | ⟨rfl, q3⟩
        · refine fin 3 (by decide) ?_ (f3 a0 a1 a2 a3)
          unfold fX5_shapeHere
          rw [bd_s p0, if_pos rfl, bd_s p1, if_pos rfl, bd_s p2, if_pos rfl, bd_s p3, if_neg n10]; rfl
        · rcases q4 with ⟨rfl, q4⟩ | ⟨rfl, q4⟩
          · refine fin 4 (by decide) ?_ (f4 a0 a1 a2 a3 a4)
            unfold fX5_shapeHere
            rw [bd_s p0, if_pos rfl, bd_s p1, if_pos rfl, bd_s p2, if_pos rfl, bd_s p3, if_pos rfl, bd_s p4, if_neg n10]; rfl
          · have hsh : fX5_shapeHere t = some (-1) := by
              unfold fX5_shapeHere
              rw [bd_s p0, if_pos rfl, bd_s p1, if_pos rfl, bd_s p2, if_pos rfl, bd_s p3, if_pos rfl, bd_s p4, if_pos rfl]
            have e6 : fX5_readShape t o1 = some (0, t, o1) := by
              unfold fX5_readShape
              rw [bd_s hsh, if_pos rfl]
            have e7 : fX7_readFirst r = some (s7_wrong r (nI s)) := by
              unfold fX7_readFirst fX7_fail
              rw [bd_s a0, if_pos rfl, bd_s a1, if_pos rfl, bd_s a2, if_pos rfl, bd_s a3, if_pos rfl, bd_s a4, if_pos rfl, if_neg (by rw [hr.2.2]; exact m1_n0), hr.2.1.2.1]
              rfl
            exact ⟨_, _, e6, e7, Or.inl ⟨rfl, s, by omega, hc.2.2.1, rfl⟩⟩
end FS1

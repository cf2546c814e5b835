/-! the reference's search lists them all -/
theorem hd_app {T : List (List Nat)} (h : T ≠ []) (S : List (List Nat)) : (T ++ S).headD [] = T.headD [] := by
  cases T with
  | nil => exact absurd rfl h
  | cons a t => rfl
def PreOk (n : Nat) (pre : List Nat) (fr : Nat) : Prop := (∀ i, i < pre.length → pre.getD i 0 < n) ∧ (∀ i j, i < pre.length → j < pre.length → pre.getD i 0 = pre.getD j 0 → i = j) ∧ fr < 2 ^ n ∧ ∀ q, q < n → (fr.testBit q = true ↔ ∀ i, i < pre.length → pre.getD i 0 ≠ q)
theorem PreOk.add {n : Nat} {pre : List Nat} {fr q : Nat} (h : PreOk n pre fr) (hq : q < n) (hf : fr.testBit q = true) : PreOk n (pre ++ [q]) (dif fr (2 ^ q)) := by
  obtain ⟨h1, h2, h3, h4⟩ := h
  have hne := (h4 q hq).mp hf
  refine ⟨fun i hi => ?_, fun i j hi hj e => ?_, dif_lt h3, fun t ht => ?_⟩
  · rw [len_1] at hi
    by_cases g : i = pre.length
    · rw [g, getD_m]; exact hq
    · rw [getD_l _ _ (by omega)]; exact h1 i (by omega)
  · rw [len_1] at hi hj
    by_cases g : i = pre.length
    · by_cases g2 : j = pre.length
      · omega
      · rw [g, getD_m, getD_l _ _ (by omega)] at e
        exact absurd e.symm (hne j (by omega))
    · by_cases g2 : j = pre.length
      · rw [g2, getD_m, getD_l _ _ (by omega)] at e
        exact absurd e (hne i (by omega))
      · rw [getD_l _ _ (by omega), getD_l _ _ (by omega)] at e
        exact h2 i j (by omega) (by omega) e
  · rw [tb_dif, Nat.testBit_two_pow, Bool.and_eq_true, h4 t ht]
    constructor
    · rintro ⟨g1, g2⟩ i hi
      rw [len_1] at hi
      by_cases g : i = pre.length
      · rw [g, getD_m]
        intro z
        rw [decide_eq_true z] at g2
        exact absurd g2 (by decide)
      · rw [getD_l _ _ (by omega)]; exact g1 i (by omega)
    · intro g
      refine ⟨fun i hi => ?_, ?_⟩
      · have := g i (by rw [len_1]; omega)
        rw [getD_l _ _ hi] at this
        exact this
      · have := g pre.length (by rw [len_1]; omega)
        rw [getD_m] at this
        rw [decide_eq_false this]; rfl
section GOT
variable {n m g : Nat} {F G : Nat → Nat}
theorem goT (hn : n ≤ 8) (hm : m ≤ 10) (hF : ∀ f, f < m → F f < 2 ^ n) (hG : ∀ f, f < m → G f < 2 ^ n) (hgn : g < n) : ∀ d fuel (pre : List Nat) (j : Nat) (T : List (List Nat)) (o : OX7) (fr : Nat), d < fuel → pre.length = j → j + d = n → PreOk n pre fr → NowR n m F (q7_now o) → NowR n m G (q7_onto o) → q7_gathered o = nI g → (∀ i, i < j → q7_goes o i = nI (pre.getD i 0)) → StC n g T (q7_found o) (q7_images o) (q7_firstImage o) → T.length + 8 ^ d < 2147483648 → ∃ r, fX7_goThrough fuel o (nI j) (nI fr) = some r ∧ StC n g (T ++ elS (isoB n m F G) n d pre) (q7_found r) (q7_images r) (q7_firstImage r) ∧ ∀ i, i < j → q7_goes r i = nI (pre.getD i 0) := by
  have h8 := p2_256 hn
  intro d
  induction d with
  | zero =>
    intro fuel pre j T o fr hfu hj hjd hp hN hO hga hgo hst hT
    obtain ⟨f, rfl⟩ : ∃ f, fuel = f + 1 := ⟨fuel - 1, by omega⟩
    have hjn : j = n := by omega
    obtain ⟨v, v1, v2⟩ := eX7_isMapped (x := xl pre) hn hm hN hO hF hG (fun p hp' => hgo p (by omega)) (fun p hp' => hp.1 p (by omega))
    have e : elS (isoB n m F G) n 0 pre = if isoB n m F G pre = true then [pre] else [] := rfl
    show ∃ r, fX7_goThrough_B (fX7_goThrough f) o (nI j) (nI fr) = some r ∧ _
    unfold fX7_goThrough_B
    rw [hN.n, if_pos (show nI j = nI n by rw [hjn]), bd_s v1, e]
    rcases v2 with ⟨rfl, v2⟩ | ⟨rfl, v2⟩
    · have hok : isoB n m F G pre = true := isoB_t.mpr ⟨⟨fun p hp' => hp.1 p (by omega), fun p q hp' hq' => hp.2.1 p q (by omega) (by omega)⟩, v2⟩
      have hgx := hp.1 g (by omega)
      have J : ∀ a : Nat → Int32, (∀ k, k < n → a k = nI (((T ++ [pre]).headD []).getD k 0)) → ∃ r, fX7_goThrough_J49 o a = some r ∧ StC n g (T ++ [pre]) (q7_found r) (q7_images r) (q7_firstImage r) ∧ ∀ i, i < j → q7_goes r i = nI (pre.getD i 0) := fun a ha => by
        unfold fX7_goThrough_J49
        rw [hga, ck_t (p_ok (by omega) (by decide)), p_ix (by omega), hgo g (by omega), p_shl1 (by omega), hst.1, hst.2.1, p_s1, p_or]
        refine ⟨_, rfl, ⟨?_, ?_, fun _ => ha⟩, hgo⟩
        · rw [List.length_append]; rfl
        · rw [orS_add]
      rw [if_neg n10, if_pos hok]
      by_cases hT0 : T = []
      · subst hT0
        rw [if_pos (show q7_found o = 0 by rw [hst.1]; rfl)]
        refine lp_inv (fun k v => v.1 = nI k ∧ ∀ i, i < k → v.2 i = nI (pre.getD i 0)) _ j ⟨rfl, fun i hi => absurd hi (Nat.not_lt_zero i)⟩ (fun k v hk hI => Or.inl ?_) (fun v hI => ?_) (lpN_gt (by omega))
        · obtain ⟨vk, va⟩ := v
          obtain ⟨h1, h2⟩ := hI
          dsimp only at h1 h2
          subst h1
          unfold fX7_goThrough_L26
          dsimp only
          rw [if_neg (nI_ge hk (by omega)), ck_t (p_ok (by omega) (by decide)), ck_t (p_ok (by omega) (by decide)), p_ix (by omega), hgo k hk, p_s1]
          refine ⟨_, rfl, rfl, fun i hi => ?_⟩
          by_cases z : i = k
          · rw [z]; exact upd_at _ _ _
          · exact (upd_ne _ _ (by omega)).trans (h2 i (by omega))
        · obtain ⟨vk, va⟩ := v
          obtain ⟨h1, h2⟩ := hI
          dsimp only at h1 h2
          subst h1
          unfold fX7_goThrough_L26
          dsimp only
          rw [if_pos (nI_le (Nat.le_refl j) (by omega))]
          exact ex_ex (J va (fun k hk => h2 k (by omega)))
      · rw [if_neg (show ¬ q7_found o = 0 by rw [hst.1, p_eq0 (by omega)]; exact fun z => hT0 (List.length_eq_zero_iff.mp z))]
        exact J _ (fun k hk => by rw [hd_app hT0]; exact hst.2.2 hT0 k hk)
    · have hok : ¬ isoB n m F G pre = true := fun z => v2 (isoB_t.mp z).2
      rw [if_pos (rfl : (0 : Int32) = 0), if_neg hok, List.append_nil]
      exact ⟨o, rfl, hst, hgo⟩
  | succ d ih =>
    intro fuel pre j T o fr hfu hj hjd hp hN hO hga hgo hst hT
    obtain ⟨f, rfl⟩ : ∃ f, fuel = f + 1 := ⟨fuel - 1, by omega⟩
    have hfr31 : fr < 2147483648 := by have := hp.2.2.1; omega
    have hpow : 8 ^ (d + 1) = 8 * 8 ^ d := by rw [Nat.pow_succ, Nat.mul_comm]
    show ∃ r, fX7_goThrough_B (fX7_goThrough f) o (nI j) (nI fr) = some r ∧ _
    unfold fX7_goThrough_B
    rw [hN.n, if_neg (show ¬ nI j = nI n from fun z => by have := (nI_eq (by omega) (by omega)).mp z; omega)]
    refine lp_inv (fun q v => v.1 = nI q ∧ StC n g (T ++ fmr (fun q => elS (isoB n m F G) n d (pre ++ [q])) q) v.2.1 v.2.2.1 v.2.2.2.2 ∧ ∀ i, i < j → v.2.2.2.1 i = nI (pre.getD i 0)) _ n ⟨rfl, by rw [fmr_0, List.append_nil]; exact hst, hgo⟩ (fun q v hq hI => Or.inl ?_) (fun v hI => ?_) (lpN_gt (by omega))
    · obtain ⟨vq, vf, vi, vg, va⟩ := v
      obtain ⟨h1, h2, h3⟩ := hI
      dsimp only at h1 h2 h3
      subst h1
      have hTq : (T ++ fmr (fun q => elS (isoB n m F G) n d (pre ++ [q])) q).length + 8 ^ d < 2147483648 := by
        have a := fmr_len (f := fun q => elS (isoB n m F G) n d (pre ++ [q])) (b := 8 ^ d) (fun q => elS_len hn d _) q
        have b : (q + 1) * 8 ^ d ≤ 8 * 8 ^ d := Nat.mul_le_mul_right _ (by omega)
        rw [Nat.succ_mul] at b
        rw [List.length_append]
        omega
      unfold fX7_goThrough_L82
      dsimp only
      rw [hN.n, if_neg (nI_ge hq (by omega)), bd_s (eX7_has hfr31 (by omega)), fmr_s, ← List.append_assoc]
      rcases bool_ft (fr.testBit q) with b | b
      · have hnil : elS (isoB n m F G) n d (pre ++ [q]) = [] := elS_nil fun l l1 l2 l3 => by
          have hx : ¬ ∀ i, i < pre.length → pre.getD i 0 ≠ q := fun z => by
            rw [(hp.2.2.2 q hq).mpr z] at b
            exact Bool.noConfusion b
          refine hx fun i hi e => ?_
          have hiso := isoB_t.mp l1
          have e1 : xl l i = q := by
            show l.getD i 0 = q
            rw [l3 i (by rw [len_1]; omega), getD_l _ _ hi]; exact e
          have e2 : xl l pre.length = q := by
            show l.getD pre.length 0 = q
            rw [l3 _ (by rw [len_1]; omega), getD_m]
          have := hiso.1.2 i pre.length (by omega) (by omega) (e1.trans e2.symm)
          omega
        rw [if0_f b, hnil, List.append_nil, p_s1]
        exact ⟨_, rfl, rfl, h2, h3⟩
      · rw [if0_t b, bd_s (eX7_often hm hN (fun f hf => by have := hF f hf; omega) (by omega)), bd_s (eX7_often hm hO (fun f hf => by have := hG f hf; omega) (by omega))]
        have c1 := cnt_le (fun f => (F f).testBit j) m
        have c2 := cnt_le (fun f => (G f).testBit q) m
        rw [ifq (by omega) (by omega)]
        by_cases c : cnt (fun f => (F f).testBit j) m = cnt (fun f => (G f).testBit q) m
        · rw [if_pos c, ck_t (p_ok (by omega) (by decide)), p_ix (by omega), p_shl1 (by omega), p_dif, p_s1, p_s1]
          refine bd_in (ih f (pre ++ [q]) (j + 1) (T ++ fmr (fun q => elS (isoB n m F G) n d (pre ++ [q])) q) _ (dif fr (2 ^ q)) (by omega) (by rw [len_1, hj]) (by omega) (hp.add hq b) (by exact hN) (by exact hO) (by exact hga) (fun i hi => ?_) (by exact h2) hTq) (fun r hr => ⟨_, rfl, rfl, hr.1, fun i hi => ?_⟩)
          · by_cases z : i = j
            · rw [z, ← hj, getD_m]; exact upd_at _ _ _
            · rw [getD_l _ _ (by omega)]
              exact (upd_ne _ _ (by omega)).trans (h3 i (by omega))
          · have := hr.2 i (by omega)
            rw [getD_l _ _ (by omega)] at this
            exact this
        · have hnil : elS (isoB n m F G) n d (pre ++ [q]) = [] := elS_nil fun l l1 l2 l3 => by
            have e2 : xl l j = q := by
              show l.getD j 0 = q
              rw [l3 _ (by rw [len_1]; omega), ← hj, getD_m]
            have := (isoB_t.mp l1).often (p := j) (by omega)
            rw [e2] at this
            exact c this
          rw [if_neg c, hnil, List.append_nil, p_s1]
          exact ⟨_, rfl, rfl, h2, h3⟩
    · obtain ⟨vq, vf, vi, vg, va⟩ := v
      obtain ⟨h1, h2, h3⟩ := hI
      dsimp only at h1 h2 h3
      subst h1
      unfold fX7_goThrough_L82
      dsimp only
      rw [hN.n, if_pos (nI_le (Nat.le_refl n) (by omega))]
      exact ⟨_, rfl, h2, h3⟩
end GOT

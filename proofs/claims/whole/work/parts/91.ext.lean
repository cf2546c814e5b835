/-! the class: the search, point by point -/
theorem bd_or {α σ ρ : Type} {x : Option α} {k : α → Option (σ ⊕ ρ)} {P : α → Prop} {I : σ → Prop} {Q : ρ → Prop} (h : ∃ r, x = some r ∧ P r) (g : ∀ r, P r → (∃ s', k r = some (.inl s') ∧ I s') ∨ (∃ y, k r = some (.inr y) ∧ Q y)) : (∃ s', x.bind k = some (.inl s') ∧ I s') ∨ (∃ y, x.bind k = some (.inr y) ∧ Q y) := by
  obtain ⟨r, rfl, h2⟩ := h
  exact g r h2
theorem dif_orr (a b c : Nat) : dif a (b ||| c) = dif (dif a b) c := Nat.eq_of_testBit_eq fun i => by
  rw [tb_dif, tb_dif, tb_dif, Nat.testBit_or]
  cases a.testBit i <;> cases b.testBit i <;> cases c.testBit i <;> rfl
def PreU (n : Nat) (pre : List Nat) (us : Nat) : Prop := us < 2 ^ n ∧ PreOk n pre (dif (2 ^ n - 1) us)
theorem PreU.add {n : Nat} {pre : List Nat} {us t : Nat} (h : PreU n pre us) (ht : t < n) (hu : us.testBit t = false) : PreU n (pre ++ [t]) (us ||| 2 ^ t) := by
  refine ⟨or_p2 h.1 ht, ?_⟩
  rw [dif_orr]
  refine h.2.add ht ?_
  rw [tb_dif, hu, Nat.testBit_two_pow_sub_one, decide_eq_true ht]; rfl
theorem PreU.mem {n : Nat} {pre : List Nat} {us t : Nat} (h : PreU n pre us) (ht : t < n) (hu : us.testBit t = true) : ∃ i, i < pre.length ∧ pre.getD i 0 = t := by
  refine Classical.byContradiction fun hn => ?_
  have h1 := (h.2.2.2.2 t ht).mpr fun i hi e => hn ⟨i, hi, e⟩
  rw [tb_dif, hu, Bool.not_true, Bool.and_false] at h1
  exact Bool.noConfusion h1
theorem preU_0 (n : Nat) : PreU n [] 0 := by
  have e : dif (2 ^ n - 1) 0 = 2 ^ n - 1 := Nat.eq_of_testBit_eq fun i => by rw [tb_dif, Nat.zero_testBit, Bool.not_false, Bool.and_true]
  refine ⟨p2_pos n, ?_⟩
  rw [e]
  exact preOk_0 n
theorem and_p2 (a t : Nat) : a &&& 2 ^ t = if a.testBit t = true then 2 ^ t else 0 := Nat.eq_of_testBit_eq fun i => by
  rw [Nat.testBit_and, Nat.testBit_two_pow]
  by_cases e : t = i
  · subst e
    rcases bool_ft (a.testBit t) with b | b
    · rw [if_bf b, b, Nat.zero_testBit, Bool.false_and]
    · rw [if_pos b, b, Nat.testBit_two_pow, Bool.true_and]
  · rw [decide_eq_false e, Bool.and_false]
    split
    · rw [Nat.testBit_two_pow, decide_eq_false e]
    · rw [Nat.zero_testBit]
theorem fmr_hd {α : Type} {f : Nat → List α} {a : α} {t : Nat} (h0 : fmr f t = []) (h1 : f t ≠ []) : ∀ k, t < k → fmr f k ≠ [] ∧ (fmr f k).headD a = (f t).headD a := by
  intro k
  induction k with
  | zero => intro h; exact absurd h (Nat.not_lt_zero t)
  | succ k ih =>
    intro h
    rw [fmr_s]
    by_cases e : t = k
    · rw [← e, h0, List.nil_append]
      exact ⟨h1, rfl⟩
    · obtain ⟨g1, g2⟩ := ih (by omega)
      refine ⟨fun z => g1 (List.append_eq_nil_iff.mp z).1, ?_⟩
      rw [← g2]
      cases hL : fmr f k with
      | nil => exact absurd hL g1
      | cons b u => rfl
/-- the lists of images in the order od that are isomorphisms within what is allowed -/
def okA (n m : Nat) (F G od al : Nat → Nat) (l : List Nat) : Bool := isoB n m F G (lfn n (fun p => l.getD (ivS od p n) 0)) && (List.range n).all fun i => (al (od i)).testBit (l.getD i 0)
section EXT
variable {n m : Nat} {F G od al : Nat → Nat}
theorem okA_t {l : List Nat} : okA n m F G od al l = true ↔ IsoF n m F G (fun p => l.getD (ivS od p n) 0) ∧ ∀ i, i < n → (al (od i)).testBit (l.getD i 0) = true := by
  have e : IsoF n m F G (xl (lfn n (fun p => l.getD (ivS od p n) 0))) ↔ IsoF n m F G (fun p => l.getD (ivS od p n) 0) := ⟨fun h => h.congr fun p hp => lfn_at _ n p hp, fun h => h.congr fun p hp => (lfn_at _ n p hp).symm⟩
  unfold okA
  rw [Bool.and_eq_true, isoB_t, e, List.all_eq_true]
  exact ⟨fun h => ⟨h.1, fun i hi => h.2 i (List.mem_range.mpr hi)⟩, fun h => ⟨h.1, fun i hi => h.2 i (List.mem_range.mp hi)⟩⟩
theorem okA_od (hod : IjN n od) {l : List Nat} {i : Nat} (hi : i < n) : l.getD (ivS od (od i) n) 0 = l.getD i 0 := by
  rw [hod.inv.2 i hi]
theorem trS_congr {o o' : Nat → Nat} {k : Nat} (h : ∀ i, i < k → o i = o' i) (s : Nat) : trS o k s = trS o' k s := tb_ext fun i => by
  rw [tb_trS, tb_trS]
  by_cases g : i < k
  · rw [h i g]
  · rw [decide_eq_false g, Bool.false_and, Bool.false_and]
theorem okA_pre (hod : IjN n od) {k : Nat} {im : Nat → Nat} {l : List Nat} (hl : okA n m F G od al l = true) (hk : k ≤ n) (hi : ∀ i, i < k → l.getD i 0 = im i) : (lsM (fun f => trS od k (F f)) m).Perm (lsM (fun f => trS im k (G f)) m) := by
  have h1 := (okA_t.mp hl).1
  refine iso_trace h1 (fun i hik => hod.1 i (by omega)) (fun i hik => ?_)
  exact (hi i hik).symm.trans (okA_od hod (by omega)).symm
theorem okA_inj (hod : IjN n od) {l : List Nat} (hl : okA n m F G od al l = true) {i j : Nat} (hi : i < n) (hj : j < n) (e : l.getD i 0 = l.getD j 0) : i = j := by
  have h1 := (okA_t.mp hl).1
  exact hod.2 i j hi hj (h1.1.2 _ _ (hod.1 i hi) (hod.1 j hj) ((okA_od hod hi).trans (e.trans (okA_od hod hj).symm)))
theorem okA_of (hG : ∀ f, f < m → G f < 2 ^ n) (hod : IjN n od) {l : List Nat} (hp1 : ∀ i, i < n → l.getD i 0 < n) (hp2 : ∀ i j, i < n → j < n → l.getD i 0 = l.getD j 0 → i = j) (ha : ∀ i, i < n → (al (od i)).testBit (l.getD i 0) = true) (ht : (lsM (fun f => trS od n (F f)) m).Perm (lsM (fun f => trS (fun i => l.getD i 0) n (G f)) m)) : okA n m F G od al l = true := okA_t.mpr ⟨trace_iso (im := fun i => l.getD i 0) hG hod ⟨hp1, hp2⟩ ht, ha⟩
theorem elS_s {ok : List Nat → Bool} {d : Nat} {pre : List Nat} : elS ok n (d + 1) pre = fmr (fun q => elS ok n d (pre ++ [q])) n := rfl
theorem extT {x y : OX2} (hn : n ≤ 8) (hm : m ≤ 10) (hx : IncR n m F x) (hy : IncR n m G y) (hF : ∀ f, f < m → F f < 2 ^ n) (hG : ∀ f, f < m → G f < 2 ^ n) (hod : IjN n od) (hal : ∀ i, i < n → al i < 256) : ∀ d fuel (pre : List Nat) (k us : Nat) (o : OX4), d < fuel → pre.length = k → k + d = n → PreU n pre us → (∀ i, i < n → q4_order o i = nI (od i)) → (∀ i, i < n → q4_allowed o i = nI (al i)) → (∀ i, i < k → q4_image o i = nI (pre.getD i 0)) → (∀ i, i < k → (al (od i)).testBit (pre.getD i 0) = true) → (lsM (fun f => trS od k (F f)) m).Perm (lsM (fun f => trS (fun i => pre.getD i 0) k (G f)) m) → ∃ r, fX4_extend fuel o x y (nI k) (nI us) = some r ∧ ((r.1 = 1 ∧ elS (okA n m F G od al) n d pre ≠ [] ∧ ∀ i, i < n → q4_image r.2 i = nI (((elS (okA n m F G od al) n d pre).headD []).getD i 0)) ∨ (r.1 = 0 ∧ elS (okA n m F G od al) n d pre = [] ∧ ∀ i, i < k → q4_image r.2 i = nI (pre.getD i 0))) := by
  have h8 := p2_256 hn
  intro d
  induction d with
  | zero =>
    intro fuel pre k us o hfu hk hkd hp ho ha hi hA hT
    obtain ⟨f, rfl⟩ : ∃ f, fuel = f + 1 := ⟨fuel - 1, by omega⟩
    have hkn : k = n := by omega
    rw [hkn] at hT hA hi
    have hok : okA n m F G od al pre = true := okA_of hG hod (fun i hi' => hp.2.1 i (by omega)) (fun i j hi' hj' => hp.2.2.1 i j (by omega) (by omega)) hA hT
    have e : elS (okA n m F G od al) n 0 pre = [pre] := if_pos hok
    show ∃ r, fX4_extend_B (fX4_extend f) o x y (nI k) (nI us) = some r ∧ _
    unfold fX4_extend_B
    rw [hx.1, hkn, if_neg (nI_nlt (Nat.le_refl n) (by omega)), e]
    exact ⟨_, rfl, Or.inl ⟨rfl, List.cons_ne_nil _ _, hi⟩⟩
  | succ d ih =>
    intro fuel pre k us o hfu hk hkd hp ho ha hi hA hT
    obtain ⟨f, rfl⟩ : ∃ f, fuel = f + 1 := ⟨fuel - 1, by omega⟩
    have hkn : k < n := by omega
    have hodk := hod.1 k hkn
    have hus : us < 2147483648 := by have := hp.1; omega
    have halk := hal (od k) hodk
    have hdf : dif (al (od k)) us < 2147483648 := dif_lt (by omega)
    show ∃ r, fX4_extend_B (fX4_extend f) o x y (nI k) (nI us) = some r ∧ _
    unfold fX4_extend_B
    rw [hx.1, if_pos (nI_lt hkn (by omega))]
    have hgo : ∀ (o' : OX4) (t : Nat), t < n → (∀ i, i < n → q4_order o' i = nI (od i)) → (∀ i, i < n → q4_allowed o' i = nI (al i)) → (∀ i, i < k → q4_image o' i = nI (pre.getD i 0)) → ∃ r, fX4_goesTo_B (fX4_extend f) o' (nI t) x y (nI k) (nI us) = some r ∧ ((r.1 = 1 ∧ elS (okA n m F G od al) n d (pre ++ [t]) ≠ [] ∧ ∀ i, i < n → q4_image r.2 i = nI (((elS (okA n m F G od al) n d (pre ++ [t])).headD []).getD i 0)) ∨ (r.1 = 0 ∧ elS (okA n m F G od al) n d (pre ++ [t]) = [] ∧ ∀ i, i < k → q4_image r.2 i = nI (pre.getD i 0))) := by
      intro o' t ht ho ha hi
      have hlk : ∀ l, okA n m F G od al l = true → (∀ i, i < (pre ++ [t]).length → l.getD i 0 = (pre ++ [t]).getD i 0) → l.getD k 0 = t := fun l _ l3 => by
        rw [l3 k (by rw [len_1]; omega), ← hk, getD_m]
      have e1 : okI (nI k) 8 = true := p_ok (by omega) (by decide)
      have e2 : okI (q4_order o' (ix (nI k))) 8 = true := by
        rw [p_ix (by omega), ho k hkn]
        exact p_ok (by omega) (by decide)
      have hb : ((q4_allowed o' (ix (q4_order o' (ix (nI k)))) &&& (nI us ^^^ (-1))) &&& jshl 1 (nI t) = 0) ↔ (dif (al (od k)) us).testBit t = false := by
        rw [p_ix (by omega), ho k hkn, p_ix (by omega), ha (od k) hodk, p_dif, p_shl1 (by omega), p_and, and_p2]
        rcases bool_ft ((dif (al (od k)) us).testBit t) with b | b
        · rw [b, if_neg Bool.false_ne_true]
          exact ⟨fun _ => rfl, fun _ => rfl⟩
        · rw [b, if_pos rfl, p_eq0 (Nat.lt_of_lt_of_le (Nat.pow_lt_pow_right (by decide) (by omega : t < 8)) (by decide))]
          exact ⟨fun z => absurd z (by have := p2_pos t; omega), fun z => Bool.noConfusion z⟩
      unfold fX4_goesTo_B
      rw [ck_t e1, ck_t e2]
      rcases bool_ft ((dif (al (od k)) us).testBit t) with c1 | c1
      · rw [if_pos (hb.mpr c1)]
        refine ⟨_, rfl, Or.inr ⟨rfl, elS_nil fun l l1 l2 l3 => ?_, hi⟩⟩
        have hl := hlk l l1 l3
        rw [tb_dif] at c1
        rcases bool_ft (us.testBit t) with b | b
        · have := (okA_t.mp l1).2 k hkn
          rw [hl] at this
          rw [this, b] at c1
          exact Bool.noConfusion c1
        · obtain ⟨i, hi1, hi2⟩ := hp.mem ht b
          have e1 : l.getD i 0 = l.getD k 0 := by
            rw [hl, l3 i (by rw [len_1]; omega), getD_l _ _ hi1, hi2]
          have := okA_inj hod l1 (by omega) hkn e1
          omega
      · have hc1 : ¬ (dif (al (od k)) us).testBit t = false := fun z => by rw [c1] at z; exact Bool.noConfusion z
        have c2 := c1
        rw [tb_dif, Bool.and_eq_true, Bool.not_eq_true'] at c2
        have hag : ∀ i, i < k + 1 → upd (q4_image o') k (nI t) i = nI ((pre ++ [t]).getD i 0) := fun i hi' => by
          by_cases z : i = k
          · rw [z, upd_at, ← hk, getD_m]
          · rw [upd_ne _ _ z, getD_l _ _ (by omega)]
            exact hi i (by omega)
        have hp' := hp.add ht c2.2
        have hlt : ∀ i, i < k + 1 → (pre ++ [t]).getD i 0 < n := fun i hi' => hp'.2.1 i (by rw [len_1]; omega)
        rw [if_neg (mt hb.mp hc1), ck_t e1, p_ix (by omega), p_shl1 (by omega), p_or, p_s1]
        refine bd_ex (eX4_agrees (F := F) (G := G) (od := od) (im := fun i => (pre ++ [t]).getD i 0) (k := k + 1) hm hx.2.1 hx.2.2 hy.2.2 (fun f hf => by have := hF f hf; omega) (fun f hf => by have := hG f hf; omega) (by omega) (by exact fun i hi' => ho i (by omega)) (fun i hi' => by have := hod.1 i (by omega); omega) (by exact hag) (fun i hi' => by
          have := hlt i hi'
          show (pre ++ [t]).getD i 0 < 8
          omega)) (fun w hw => ?_)
        rcases hw with ⟨w1, w2⟩ | ⟨w1, w2⟩
        · rw [w1, if_neg n10]
          refine bd_ex (ih f (pre ++ [t]) (k + 1) (us ||| 2 ^ t) _ (by omega) (by rw [len_1, hk]) (by omega) hp' (by exact ho) (by exact ha) (by exact hag) (fun i hi' => ?_) w2) (fun u hu => ?_)
          · by_cases z : i = k
            · rw [z, ← hk, getD_m, hk]; exact c2.1
            · rw [getD_l _ _ (by omega)]; exact hA i (by omega)
          · rcases hu with ⟨u1, u2, u3⟩ | ⟨u1, u2, u3⟩
            · rw [u1, if_neg n10]
              exact ⟨_, rfl, Or.inl ⟨rfl, u2, u3⟩⟩
            · rw [u1, if_pos (rfl : (0 : Int32) = 0)]
              refine ⟨_, rfl, Or.inr ⟨rfl, u2, fun i hi' => ?_⟩⟩
              have := u3 i (by omega)
              rw [getD_l _ _ (by omega)] at this
              exact this
        · rw [w1, if_pos (rfl : (0 : Int32) = 0)]
          refine ⟨_, rfl, Or.inr ⟨rfl, elS_nil fun l l1 l2 l3 => ?_, fun i hi' => (upd_ne _ _ (by omega)).trans (hi i hi')⟩⟩
          exact w2 (okA_pre hod l1 (by omega) fun i hi' => l3 i (by rw [len_1]; omega))
    refine lp_inv (fun t v => v.1 = nI t ∧ fmr (fun q => elS (okA n m F G od al) n d (pre ++ [q])) t = [] ∧ ∀ i, i < k → v.2.1 i = nI (pre.getD i 0)) _ n ⟨rfl, fmr_0 _, hi⟩ (fun t v ht hI => ?_) (fun v hI => ?_) (lpN_gt (by omega))
    · obtain ⟨vt, vi, vtr, vtt, vta⟩ := v
      obtain ⟨h1, h2, h3⟩ := hI
      dsimp only at h1 h2 h3
      subst h1
      unfold fX4_extend_L13
      dsimp only
      rw [hy.1, if_neg (nI_ge ht (by omega))]
      refine bd_or (hgo _ t ht (by exact ho) (by exact ha) (by exact h3)) (fun u hu => ?_)
      rcases hu with ⟨u1, u2, u3⟩ | ⟨u1, u2, u3⟩
      · obtain ⟨g1, g2⟩ := fmr_hd (f := fun q => elS (okA n m F G od al) n d (pre ++ [q])) (a := []) h2 u2 n ht
        rw [u1, if_neg n10]
        refine Or.inr ⟨_, rfl, Or.inl ⟨rfl, g1, fun i hi' => ?_⟩⟩
        rw [elS_s, g2]
        exact u3 i hi'
      · rw [u1, if_pos (rfl : (0 : Int32) = 0), p_s1]
        exact Or.inl ⟨_, rfl, rfl, by rw [fmr_s, h2, u2, List.nil_append], u3⟩
    · obtain ⟨vt, vi, vtr, vtt, vta⟩ := v
      obtain ⟨h1, h2, h3⟩ := hI
      dsimp only at h1 h2 h3
      subst h1
      unfold fX4_extend_L13
      dsimp only
      rw [hy.1, if_pos (nI_le (Nat.le_refl n) (by omega))]
      exact ⟨_, rfl, Or.inr ⟨rfl, h2, h3⟩⟩
end EXT

/-! the first statement's incidences, as both sides lay them -/
def smL (N : Nat) : List Nat := (List.range N).map fun k => dif (2 ^ N - 1) (2 ^ k)
def cyL (N : Nat) : List Nat := (List.range N).map fun k => 2 ^ k ||| 2 ^ ((k + 1) % N)
def cuO (N i : Nat) : Nat := nbs (fun _ p => p.testBit i) (2 ^ N) 0
def cuR (N k : Nat) : Nat := nbs (fun _ p => Nat.beq (p.testBit (k / 2)).toNat (k % 2)) (2 ^ N) 0
def cuM (N k : Nat) : List Nat := (List.range k).map (cuR N)
def crG (N s : Nat) : Nat := itn (fun i x => x ||| 2 ^ (2 * i + (s.testBit i).toNat)) 0 N
def crM (N k : Nat) : List Nat := (List.range k).map (crG N)
theorem cuR_1 (N i : Nat) : cuR N (2 * i + 1) = cuO N i := Nat.eq_of_testBit_eq fun j => by
  unfold cuR cuO
  rw [tb_nbs, tb_nbs, show (2 * i + 1) / 2 = i by omega, show (2 * i + 1) % 2 = 1 by omega]
  cases j.testBit i <;> rfl
theorem cuR_0 (N i : Nat) : cuR N (2 * i) = dif (2 ^ 2 ^ N - 1) (cuO N i) := Nat.eq_of_testBit_eq fun j => by
  unfold cuR cuO
  rw [tb_dif, Nat.testBit_two_pow_sub_one, tb_nbs, tb_nbs, show (2 * i) / 2 = i by omega, show (2 * i) % 2 = 0 by omega]
  cases j.testBit i <;> cases decide (j < 2 ^ N) <;> rfl
theorem cuR_lt (N k : Nat) : cuR N k < 2 ^ 2 ^ N := nbs_lt _ _ _
theorem b2_le (b : Bool) : b.toNat ≤ 1 := by cases b <;> decide
theorem crG_lt {N : Nat} (s : Nat) : ∀ i, i ≤ N → itn (fun i x => x ||| 2 ^ (2 * i + (s.testBit i).toNat)) 0 i < 2 ^ (2 * N) := by
  intro i
  induction i with
  | zero => intro _; exact p2_pos _
  | succ i ih =>
    intro h
    have := b2_le (s.testBit i)
    exact Nat.or_lt_two_pow (ih (by omega)) (Nat.pow_lt_pow_right (by decide) (by omega))
theorem sm_len (k N : Nat) : ((List.range k).map fun k => dif (2 ^ N - 1) (2 ^ k)).length = k := by rw [List.length_map, List.length_range]
theorem cy_len (k N : Nat) : ((List.range k).map fun k => 2 ^ k ||| 2 ^ ((k + 1) % N)).length = k := by rw [List.length_map, List.length_range]
theorem cuM_len (N k : Nat) : (cuM N k).length = k := by unfold cuM; rw [List.length_map, List.length_range]
theorem crM_len (N k : Nat) : (crM N k).length = k := by unfold crM; rw [List.length_map, List.length_range]
section SHP
theorem eX5_laySimplex {N : Nat} (h8 : N ≤ 8) (o : OX2) : ∃ z, fX5_laySimplex (nI N) o = some z ∧ IncL N (smL N) z := by
  unfold fX5_laySimplex
  rw [show fX2_clear o (nI N) = some (s2_facets (s2_points o (nI N)) 0) from rfl, Option.bind_some]
  refine lp_inv (fun k v => v.1 = nI k ∧ IncL N ((List.range k).map fun k => dif (2 ^ N - 1) (2 ^ k)) (v.2.2, nI N, v.2.1)) _ N ?_ (fun k v hk hI => Or.inl ?_) (fun v hI => ?_) (lpN_gt (by omega))
  · exact ⟨rfl, incL_0 N _⟩
  · obtain ⟨vk, vf, vs⟩ := v
    obtain ⟨h1, h2⟩ := hI
    dsimp only at h1 h2
    subst h1
    obtain ⟨z, z1, z2⟩ := eX2_addL h2 (by rw [sm_len]; omega) (dif (2 ^ N - 1) (2 ^ k))
    have ea : fX2_allPoints (s2_facets (s2_points (s2_sets o vs) (q2_points (s2_facets (s2_points o (nI N)) 0))) vf) = some (nI (2 ^ N - 1)) := eX2_allPoints h8 rfl
    unfold fX5_laySimplex_L7
    dsimp only
    rw [if_neg (nI_ge hk (by omega)), bd_s ea, p_shl1 (by omega), p_dif, show fX2_add (s2_facets (s2_points (s2_sets o vs) (q2_points (s2_facets (s2_points o (nI N)) 0))) vf) (nI (dif (2 ^ N - 1) (2 ^ k))) = some z from z1, Option.bind_some, p_s1]
    refine ⟨_, rfl, rfl, ?_⟩
    rw [map_s]
    exact ⟨rfl, z2.2.1, z2.2.2⟩
  · obtain ⟨vk, vf, vs⟩ := v
    obtain ⟨h1, h2⟩ := hI
    dsimp only at h1 h2
    subst h1
    unfold fX5_laySimplex_L7
    dsimp only
    rw [if_pos (nI_le (Nat.le_refl N) (by omega))]
    exact ⟨_, rfl, h2⟩
theorem eX7_makeSimplex {N : Nat} (h8 : N ≤ 8) (o : OX7) : ∃ z, fX7_makeSimplex o (nI N) = some z ∧ MadeL N (smL N) (q7_made z) := by
  unfold fX7_makeSimplex
  refine bd_ex (eX7_beginE o N) (fun g hg => ?_)
  refine lp_inv (fun k v => v.1 = nI k ∧ MadeL N ((List.range k).map fun k => dif (2 ^ N - 1) (2 ^ k)) v.2) _ N ?_ (fun k v hk hI => Or.inl ?_) (fun v hI => ?_) (lpN_gt (by omega))
  · exact ⟨rfl, hg⟩
  · obtain ⟨vk, vg⟩ := v
    obtain ⟨h1, h2⟩ := hI
    dsimp only at h1 h2
    subst h1
    unfold fX7_makeSimplex_L7 fX7_every
    dsimp only
    rw [if_neg (nI_ge hk (by omega)), p_shl1 (by omega), p_shl1 (by omega), show nI (2 ^ N) - 1 = nI (2 ^ N - 1) from p_sub (b := 1) (p2_pos N), Option.bind_some, p_dif, p_s1, map_s]
    exact bd_in (eX7_addE (by exact h2) (by rw [sm_len]; omega) (dif (2 ^ N - 1) (2 ^ k))) (fun z hz => ⟨_, rfl, rfl, hz⟩)
  · obtain ⟨vk, vg⟩ := v
    obtain ⟨h1, h2⟩ := hI
    dsimp only at h1 h2
    subst h1
    unfold fX7_makeSimplex_L7
    dsimp only
    rw [if_pos (nI_le (Nat.le_refl N) (by omega))]
    exact ⟨_, rfl, h2⟩
theorem eX5_layCycle {N : Nat} (h8 : N ≤ 8) (o : OX2) : ∃ z, fX5_layCycle (nI N) o = some z ∧ IncL N (cyL N) z := by
  unfold fX5_layCycle
  rw [show fX2_clear o (nI N) = some (s2_facets (s2_points o (nI N)) 0) from rfl, Option.bind_some]
  refine lp_inv (fun k v => v.1 = nI k ∧ IncL N ((List.range k).map fun k => 2 ^ k ||| 2 ^ ((k + 1) % N)) (v.2.2, nI N, v.2.1)) _ N ?_ (fun k v hk hI => Or.inl ?_) (fun v hI => ?_) (lpN_gt (by omega))
  · exact ⟨rfl, incL_0 N _⟩
  · obtain ⟨vk, vf, vs⟩ := v
    obtain ⟨h1, h2⟩ := hI
    dsimp only at h1 h2
    subst h1
    obtain ⟨z, z1, z2⟩ := eX2_addL h2 (by rw [cy_len]; omega) (2 ^ k ||| 2 ^ ((k + 1) % N))
    have hJ : ∀ x, x = (k + 1) % N → fX5_layCycle_J26 o (s2_facets (s2_points o (nI N)) 0) (nI k, vf, vs) (nI x) = some (.inl (nI (k + 1), q2_facets z, q2_sets z)) := fun x hx => by
      have hlt : (k + 1) % N < N := Nat.mod_lt _ (by omega)
      unfold fX5_layCycle_J26
      dsimp only
      rw [hx, p_shl1 (by omega), p_shl1 (by omega), p_or, show fX2_add (s2_facets (s2_points (s2_sets o vs) (q2_points (s2_facets (s2_points o (nI N)) 0))) vf) (nI (2 ^ k ||| 2 ^ ((k + 1) % N))) = some z from z1, Option.bind_some, p_s1]
    unfold fX5_layCycle_L7
    dsimp only
    rw [if_neg (nI_ge hk (by omega)), p_s1, map_s]
    by_cases g : k + 1 < N
    · rw [if_neg (nI_ge g (by omega)), hJ (k + 1) (Nat.mod_eq_of_lt g).symm]
      exact ⟨_, rfl, rfl, rfl, z2.2.1, z2.2.2⟩
    · rw [if_pos (nI_le (by omega) (by omega))]
      refine ⟨_, hJ 0 (by rw [show k + 1 = N by omega, Nat.mod_self]), rfl, rfl, z2.2.1, z2.2.2⟩
  · obtain ⟨vk, vf, vs⟩ := v
    obtain ⟨h1, h2⟩ := hI
    dsimp only at h1 h2
    subst h1
    unfold fX5_layCycle_L7
    dsimp only
    rw [if_pos (nI_le (Nat.le_refl N) (by omega))]
    exact ⟨_, rfl, h2⟩
theorem ne0_t {N : Nat} (h : 0 < N) (h2 : N < 2147483648) : ne0 (nI N) = true := decide_eq_true (nI_ne0 h h2)
theorem eX7_makeCycle {N : Nat} (h8 : N ≤ 8) (o : OX7) : ∃ z, fX7_makeCycle o (nI N) = some z ∧ MadeL N (cyL N) (q7_made z) := by
  unfold fX7_makeCycle
  refine bd_ex (eX7_beginE o N) (fun g hg => ?_)
  refine lp_inv (fun k v => v.1 = nI k ∧ MadeL N ((List.range k).map fun k => 2 ^ k ||| 2 ^ ((k + 1) % N)) v.2) _ N ?_ (fun k v hk hI => Or.inl ?_) (fun v hI => ?_) (lpN_gt (by omega))
  · exact ⟨rfl, hg⟩
  · obtain ⟨vk, vg⟩ := v
    obtain ⟨h1, h2⟩ := hI
    dsimp only at h1 h2
    subst h1
    have hlt : (k + 1) % N < N := Nat.mod_lt _ (by omega)
    unfold fX7_makeCycle_L7
    dsimp only
    rw [if_neg (nI_ge hk (by omega)), ck_t (ne0_t (by omega) (by omega)), p_s1, p_rem (by omega) (by omega), p_shl1 (by omega), p_shl1 (by omega), p_or, map_s]
    exact bd_in (eX7_addE (by exact h2) (by rw [cy_len]; omega) (2 ^ k ||| 2 ^ ((k + 1) % N))) (fun z hz => ⟨_, rfl, rfl, hz⟩)
  · obtain ⟨vk, vg⟩ := v
    obtain ⟨h1, h2⟩ := hI
    dsimp only at h1 h2
    subst h1
    unfold fX7_makeCycle_L7
    dsimp only
    rw [if_pos (nI_le (Nat.le_refl N) (by omega))]
    exact ⟨_, rfl, h2⟩
theorem eX5_layCube {N : Nat} (h3 : N ≤ 3) (o : OX2) : ∃ z, fX5_layCube (nI N) o = some z ∧ IncL (2 ^ N) (cuM N (2 * N)) z := by
  have h8 : 2 ^ N ≤ 8 := p2_lt (k := 3) h3
  unfold fX5_layCube
  rw [p_shl1 (by omega), show fX2_clear o (nI (2 ^ N)) = some (s2_facets (s2_points o (nI (2 ^ N))) 0) from rfl, Option.bind_some]
  refine lp_inv (fun i v => v.1 = nI i ∧ IncL (2 ^ N) (cuM N (2 * i)) (v.2.2, nI (2 ^ N), v.2.1)) _ N ?_ (fun i v hi hI => Or.inl ?_) (fun v hI => ?_) (lpN_gt (by omega))
  · exact ⟨rfl, incL_0 _ _⟩
  · obtain ⟨vk, vf, vs⟩ := v
    obtain ⟨h1, h2⟩ := hI
    dsimp only at h1 h2
    subst h1
    unfold fX5_layCube_L9
    dsimp only
    rw [if_neg (nI_ge hi (by omega))]
    refine lp_in (fun p w => w = (nI (nbs (fun _ p => p.testBit i) p 0), nI p)) (2 ^ N) rfl (fun p w hp hI => ?_) (fun w hI => ?_) (lpN_gt (by omega))
    · subst hI
      unfold fX5_layCube_L19
      dsimp only
      have hs : nbs (fun _ p => p.testBit i) (p + 1) 0 = if p.testBit i = true then nbs (fun _ p => p.testBit i) p 0 ||| 2 ^ p else nbs (fun _ p => p.testBit i) p 0 := rfl
      rw [show q2_points (s2_facets (s2_points o (nI (2 ^ N))) 0) = nI (2 ^ N) from rfl, if_neg (nI_ge hp (by omega)), p_bit1 (by omega) (by omega), p_shl _ (by omega), p_or, p_s1, shl_b, hs]
      by_cases b : p.testBit i = true
      · rw [if_pos b, if_pos b]
        exact ⟨_, rfl, rfl⟩
      · rw [if_neg b, if_neg b, Nat.or_zero]
        exact ⟨_, rfl, rfl⟩
    · subst hI
      have hO : nbs (fun _ p => p.testBit i) (2 ^ N) 0 = cuO N i := rfl
      obtain ⟨z, z1, z2⟩ := eX2_addL h2 (by rw [cuM_len]; omega) (dif (2 ^ 2 ^ N - 1) (cuO N i))
      have hz : IncL (2 ^ N) (cuM N (2 * i) ++ [dif (2 ^ 2 ^ N - 1) (cuO N i)]) (q2_sets z, nI (2 ^ N), q2_facets z) := ⟨rfl, z2.2.1, z2.2.2⟩
      obtain ⟨y, y1, y2⟩ := eX2_addL hz (by rw [List.length_append, cuM_len, List.length_singleton]; omega) (cuO N i)
      have ea : fX2_allPoints (s2_facets (s2_points (s2_sets o vs) (q2_points (s2_facets (s2_points o (nI (2 ^ N))) 0))) vf) = some (nI (2 ^ 2 ^ N - 1)) := eX2_allPoints h8 rfl
      unfold fX5_layCube_L19
      dsimp only
      rw [if_pos (show q2_points (s2_facets (s2_points o (nI (2 ^ N))) 0) ≤ nI (2 ^ N) from nI_le (Nat.le_refl _) (by omega)), bd_s ea, hO, p_dif, show fX2_add (s2_facets (s2_points (s2_sets o vs) (q2_points (s2_facets (s2_points o (nI (2 ^ N))) 0))) vf) (nI (dif (2 ^ 2 ^ N - 1) (cuO N i))) = some z from z1, Option.bind_some, show fX2_add (s2_facets (s2_points (s2_sets o (q2_sets z)) (q2_points (s2_facets (s2_points o (nI (2 ^ N))) 0))) (q2_facets z)) (nI (cuO N i)) = some y from y1, Option.bind_some, p_s1]
      refine ⟨_, rfl, rfl, ?_⟩
      have e : cuM N (2 * (i + 1)) = cuM N (2 * i) ++ [dif (2 ^ 2 ^ N - 1) (cuO N i)] ++ [cuO N i] := by
        show (List.range (2 * i + 1 + 1)).map (cuR N) = _
        rw [map_s, map_s, cuR_1, cuR_0]
        rfl
      rw [e]
      exact ⟨rfl, y2.2.1, y2.2.2⟩
  · obtain ⟨vk, vf, vs⟩ := v
    obtain ⟨h1, h2⟩ := hI
    dsimp only at h1 h2
    subst h1
    unfold fX5_layCube_L9
    dsimp only
    rw [if_pos (nI_le (Nat.le_refl N) (by omega))]
    exact ⟨_, rfl, h2⟩
theorem eX7_makeCube {N : Nat} (h3 : N ≤ 3) (o : OX7) : ∃ z, fX7_makeCube o (nI N) = some z ∧ MadeL (2 ^ N) (cuM N (2 * N)) (q7_made z) := by
  have h8 : 2 ^ N ≤ 8 := p2_lt (k := 3) h3
  unfold fX7_makeCube
  rw [p_shl1 (by omega)]
  refine bd_ex (eX7_beginE o (2 ^ N)) (fun g hg => ?_)
  refine lp_inv (fun k v => v.1 = nI k ∧ MadeL (2 ^ N) (cuM N k) v.2) _ (2 * N) ?_ (fun k v hk hI => Or.inl ?_) (fun v hI => ?_) (lpN_gt (by omega))
  · exact ⟨rfl, hg⟩
  · obtain ⟨vk, vg⟩ := v
    obtain ⟨h1, h2⟩ := hI
    dsimp only at h1 h2
    subst h1
    unfold fX7_makeCube_L9
    dsimp only
    rw [show (2 : Int32) = nI 2 from rfl, p_mul, if_neg (nI_ge hk (by omega))]
    refine lp_in (fun p w => w = (nI (nbs (fun _ p => Nat.beq (p.testBit (k / 2)).toNat (k % 2)) p 0), nI p)) (2 ^ N) rfl (fun p w hp hI => ?_) (fun w hI => ?_) (lpN_gt (by omega))
    · subst hI
      have hb := b2_le (p.testBit (k / 2))
      have hs : nbs (fun _ p => Nat.beq (p.testBit (k / 2)).toNat (k % 2)) (p + 1) 0 = if Nat.beq (p.testBit (k / 2)).toNat (k % 2) = true then nbs (fun _ p => Nat.beq (p.testBit (k / 2)).toNat (k % 2)) p 0 ||| 2 ^ p else nbs (fun _ p => Nat.beq (p.testBit (k / 2)).toNat (k % 2)) p 0 := rfl
      unfold fX7_makeCube_L21
      dsimp only
      rw [show (2 : Int32) = nI 2 from rfl, p_shl1 (by omega), if_neg (nI_ge hp (by omega)), p_div (by omega) (by decide), p_bit1 (by omega) (by omega), p_rem (by omega) (by decide), ifq (by omega) (by omega), p_s1, p_shl1 (by omega), p_or, Int32.or_zero, hs]
      by_cases b : (p.testBit (k / 2)).toNat = k % 2
      · rw [if_pos b, if_pos (beq_t.mpr b)]
        exact ⟨_, rfl, rfl⟩
      · rw [if_neg b, if_bf (nbeq_f b)]
        exact ⟨_, rfl, rfl⟩
    · subst hI
      have hO : nbs (fun _ p => Nat.beq (p.testBit (k / 2)).toNat (k % 2)) (2 ^ N) 0 = cuR N k := rfl
      have e : cuM N (k + 1) = cuM N k ++ [cuR N k] := map_s _ k
      unfold fX7_makeCube_L21
      dsimp only
      rw [p_shl1 (by omega), if_pos (nI_le (Nat.le_refl _) (by omega)), hO, p_s1, e]
      exact ex_in (bd_in (eX7_addE (by exact h2) (by rw [cuM_len]; omega) (cuR N k)) (fun z hz => ⟨_, rfl, rfl, hz⟩))
  · obtain ⟨vk, vg⟩ := v
    obtain ⟨h1, h2⟩ := hI
    dsimp only at h1 h2
    subst h1
    unfold fX7_makeCube_L9
    dsimp only
    rw [show (2 : Int32) = nI 2 from rfl, p_mul, if_pos (nI_le (Nat.le_refl _) (by omega))]
    exact ⟨_, rfl, h2⟩
theorem eX5_layCross {N : Nat} (h3 : N ≤ 3) (o : OX2) : ∃ z, fX5_layCross (nI N) o = some z ∧ IncL (2 * N) (crM N (2 ^ N)) z := by
  have h8 : 2 ^ N ≤ 8 := p2_lt (k := 3) h3
  unfold fX5_layCross
  rw [show (2 : Int32) = nI 2 from rfl, p_mul, show fX2_clear o (nI (2 * N)) = some (s2_facets (s2_points o (nI (2 * N))) 0) from rfl, Option.bind_some]
  refine lp_inv (fun s v => v.1 = nI s ∧ IncL (2 * N) (crM N s) (v.2.2, nI (2 * N), v.2.1)) _ (2 ^ N) ?_ (fun s v hs hI => Or.inl ?_) (fun v hI => ?_) (lpN_gt (by omega))
  · exact ⟨rfl, incL_0 _ _⟩
  · obtain ⟨vk, vf, vs⟩ := v
    obtain ⟨h1, h2⟩ := hI
    dsimp only at h1 h2
    subst h1
    unfold fX5_layCross_L9
    dsimp only
    rw [p_shl1 (by omega), if_neg (nI_ge hs (by omega))]
    refine lp_in (fun i w => w = (nI (itn (fun i x => x ||| 2 ^ (2 * i + (s.testBit i).toNat)) 0 i), nI i)) N rfl (fun i w hi hI => ?_) (fun w hI => ?_) (lpN_gt (by omega))
    · subst hI
      have hb := b2_le (s.testBit i)
      unfold fX5_layCross_L21
      dsimp only
      rw [if_neg (nI_ge hi (by omega)), show (2 : Int32) = nI 2 from rfl, p_mul, p_bit1 (by omega) (by omega), nI_add, p_shl1 (by omega), p_or, p_s1]
      exact ⟨_, rfl, rfl⟩
    · subst hI
      have hO : itn (fun i x => x ||| 2 ^ (2 * i + (s.testBit i).toNat)) 0 N = crG N s := rfl
      have e : crM N (s + 1) = crM N s ++ [crG N s] := map_s _ s
      obtain ⟨z, z1, z2⟩ := eX2_addL h2 (by rw [crM_len]; omega) (crG N s)
      unfold fX5_layCross_L21
      dsimp only
      rw [if_pos (nI_le (Nat.le_refl _) (by omega)), hO, show fX2_add (s2_facets (s2_points (s2_sets o vs) (q2_points (s2_facets (s2_points o (nI (2 * N))) 0))) vf) (nI (crG N s)) = some z from z1, Option.bind_some, p_s1, e]
      exact ⟨_, rfl, rfl, rfl, z2.2.1, z2.2.2⟩
  · obtain ⟨vk, vf, vs⟩ := v
    obtain ⟨h1, h2⟩ := hI
    dsimp only at h1 h2
    subst h1
    unfold fX5_layCross_L9
    dsimp only
    rw [p_shl1 (by omega), if_pos (nI_le (Nat.le_refl _) (by omega))]
    exact ⟨_, rfl, h2⟩
theorem eX7_makeCross {N : Nat} (h3 : N ≤ 3) (o : OX7) : ∃ z, fX7_makeCross o (nI N) = some z ∧ MadeL (2 * N) (crM N (2 ^ N)) (q7_made z) := by
  have h8 : 2 ^ N ≤ 8 := p2_lt (k := 3) h3
  unfold fX7_makeCross
  rw [show (2 : Int32) = nI 2 from rfl, p_mul]
  refine bd_ex (eX7_beginE o (2 * N)) (fun g hg => ?_)
  refine lp_inv (fun s v => v.1 = nI s ∧ MadeL (2 * N) (crM N s) v.2) _ (2 ^ N) ?_ (fun s v hs hI => Or.inl ?_) (fun v hI => ?_) (lpN_gt (by omega))
  · exact ⟨rfl, hg⟩
  · obtain ⟨vk, vg⟩ := v
    obtain ⟨h1, h2⟩ := hI
    dsimp only at h1 h2
    subst h1
    unfold fX7_makeCross_L9
    dsimp only
    rw [p_shl1 (by omega), if_neg (nI_ge hs (by omega))]
    refine lp_in (fun i w => w = (nI (itn (fun i x => x ||| 2 ^ (2 * i + (s.testBit i).toNat)) 0 i), nI i)) N rfl (fun i w hi hI => ?_) (fun w hI => ?_) (lpN_gt (by omega))
    · subst hI
      have hb := b2_le (s.testBit i)
      unfold fX7_makeCross_L21
      dsimp only
      rw [if_neg (nI_ge hi (by omega)), show (2 : Int32) = nI 2 from rfl, p_mul, p_bit1 (by omega) (by omega), nI_add, p_shl1 (by omega), p_or, p_s1]
      exact ⟨_, rfl, rfl⟩
    · subst hI
      have hO : itn (fun i x => x ||| 2 ^ (2 * i + (s.testBit i).toNat)) 0 N = crG N s := rfl
      have e : crM N (s + 1) = crM N s ++ [crG N s] := map_s _ s
      unfold fX7_makeCross_L21
      dsimp only
      rw [if_pos (nI_le (Nat.le_refl _) (by omega)), hO, p_s1, e]
      exact ex_in (bd_in (eX7_addE (by exact h2) (by rw [crM_len]; omega) (crG N s)) (fun z hz => ⟨_, rfl, rfl, hz⟩))
  · obtain ⟨vk, vg⟩ := v
    obtain ⟨h1, h2⟩ := hI
    dsimp only at h1 h2
    subst h1
    unfold fX7_makeCross_L9
    dsimp only
    rw [p_shl1 (by omega), if_pos (nI_le (Nat.le_refl _) (by omega))]
    exact ⟨_, rfl, h2⟩
end SHP
/-- the shapes by their numbers: points, facets, least and greatest size -/
def shN (i N : Nat) : Nat := if i = 3 then 2 ^ N else if i = 4 then 2 * N else N
def shL (i N : Nat) : List Nat := if i = 1 then smL N else if i = 2 then cyL N else if i = 3 then cuM N (2 * N) else if i = 4 then crM N (2 ^ N) else []
def shA (i : Nat) : Nat := if i = 1 then 2 else if i = 2 then 3 else 1
def shZ (i : Nat) : Nat := if i = 3 then 3 else if i = 4 then 3 else 8
theorem sh_V {i N : Nat} (hi : i < 5) (h1 : shA i ≤ N) (h2 : N ≤ shZ i) : 1 ≤ shN i N ∧ shN i N ≤ 8 ∧ (shL i N).length ≤ 8 ∧ ∀ s, s ∈ shL i N → s < 2 ^ shN i N := by
  unfold shA at h1
  unfold shZ at h2
  unfold shN shL
  match i, hi with
  | 0, _ =>
    simp only [if_neg (by decide : ¬ 0 = 1), if_neg (by decide : ¬ 0 = 2), if_neg (by decide : ¬ 0 = 3), if_neg (by decide : ¬ 0 = 4)] at h1 h2 ⊢
    exact ⟨h1, h2, Nat.zero_le _, fun s hs => absurd hs List.not_mem_nil⟩
  | 1, _ =>
    simp only [if_pos, if_neg (by decide : ¬ 1 = 2), if_neg (by decide : ¬ 1 = 3), if_neg (by decide : ¬ 1 = 4)] at h1 h2 ⊢
    refine ⟨by omega, h2, by unfold smL; rw [sm_len]; exact h2, fun s hs => ?_⟩
    obtain ⟨k, _, rfl⟩ := List.mem_map.mp hs
    exact dif_lt (by have := p2_pos N; omega)
  | 2, _ =>
    simp only [if_pos, if_neg (by decide : ¬ 2 = 1), if_neg (by decide : ¬ 2 = 3), if_neg (by decide : ¬ 2 = 4)] at h1 h2 ⊢
    refine ⟨by omega, h2, by unfold cyL; rw [cy_len]; exact h2, fun s hs => ?_⟩
    obtain ⟨k, hk, rfl⟩ := List.mem_map.mp hs
    rw [List.mem_range] at hk
    exact or_p2 (Nat.pow_lt_pow_right (by decide) hk) (Nat.mod_lt _ (by omega))
  | 3, _ =>
    simp only [if_pos, if_neg (by decide : ¬ 3 = 1), if_neg (by decide : ¬ 3 = 2), if_neg (by decide : ¬ 3 = 4)] at h1 h2 ⊢
    refine ⟨p2_pos N, p2_lt (k := 3) h2, by rw [cuM_len]; omega, fun s hs => ?_⟩
    obtain ⟨k, _, rfl⟩ := List.mem_map.mp hs
    exact cuR_lt N k
  | 4, _ =>
    simp only [if_pos, if_neg (by decide : ¬ 4 = 1), if_neg (by decide : ¬ 4 = 2), if_neg (by decide : ¬ 4 = 3)] at h1 h2 ⊢
    refine ⟨by omega, by omega, by rw [crM_len]; exact p2_lt (k := 3) h2, fun s hs => ?_⟩
    obtain ⟨k, _, rfl⟩ := List.mem_map.mp hs
    exact crG_lt k N (Nat.le_refl N)
theorem eX5_lay {i N : Nat} (hi : i < 5) (h2 : N ≤ shZ i) (o : OX2) : ∃ z, fX5_lay (nI i) (nI N) o = some z ∧ IncL (shN i N) (shL i N) z := by
  unfold shZ at h2
  unfold fX5_lay
  match i, hi with
  | 0, _ =>
    rw [if_neg (by decide : ¬ nI 0 = 1), if_neg (by decide : ¬ nI 0 = 2), if_neg (by decide : ¬ nI 0 = 3), if_neg (by decide : ¬ nI 0 = 4)]
    exact ⟨_, rfl, incL_0 N (q2_sets o)⟩
  | 1, _ =>
    obtain ⟨z, z1, z2⟩ := eX5_laySimplex (N := N) (by simpa using h2) o
    rw [if_pos (by decide : nI 1 = 1), bd_s z1]
    exact ⟨_, rfl, z2⟩
  | 2, _ =>
    obtain ⟨z, z1, z2⟩ := eX5_layCycle (N := N) (by simpa using h2) o
    rw [if_neg (by decide : ¬ nI 2 = 1), if_pos (by decide : nI 2 = 2), bd_s z1]
    exact ⟨_, rfl, z2⟩
  | 3, _ =>
    obtain ⟨z, z1, z2⟩ := eX5_layCube (N := N) (by simpa using h2) o
    rw [if_neg (by decide : ¬ nI 3 = 1), if_neg (by decide : ¬ nI 3 = 2), if_pos (by decide : nI 3 = 3), bd_s z1]
    exact ⟨_, rfl, z2⟩
  | 4, _ =>
    obtain ⟨z, z1, z2⟩ := eX5_layCross (N := N) (by simpa using h2) o
    rw [if_neg (by decide : ¬ nI 4 = 1), if_neg (by decide : ¬ nI 4 = 2), if_neg (by decide : ¬ nI 4 = 3), if_pos (by decide : nI 4 = 4), bd_s z1]
    exact ⟨_, rfl, z2⟩

/-! the class: begin, signaturesMatch, find -/
def odF (z p : Nat) : Nat := if p = 0 then z else if z < p then p else p - 1
theorem odF_ij {n z : Nat} (hz : z < n) : IjN n (odF z) := by
  refine ⟨fun p hp => ?_, fun p q hp hq e => ?_⟩
  · unfold odF
    split
    · exact hz
    · split <;> omega
  · unfold odF at e
    split at e <;> split at e <;> (try split at e) <;> (try split at e) <;> omega
theorem odF_0 (p : Nat) : odF 0 p = p := by
  unfold odF
  split
  · omega
  · rw [if_pos (by omega)]
section FND
variable {n m n' m' : Nat} {F G : Nat → Nat}
theorem eX4_begin {o : OX4} {x y : OX2} (hv : IncV n m F) (hv' : IncV n' m' G) (hx : IncR n m F x) (hy : IncR n' m' G y) {z : Nat} (hz : z < n) : ∃ r, fX4_begin o x y (nI z) = some r ∧ (∀ p, p < n → q4_order r p = nI (odF z p)) ∧ (∀ p, p < n → q4_allowed r p = nI (alk (sgL (lsM G m')) (sgL (lsM F m) p) n')) ∧ ∀ p, p < n → q4_signatures r p = sgL (lsM F m) p := by
  have hn := hv.2.1
  have hn' := hv'.2.1
  unfold fX4_begin
  refine bd_ex (eX4_sign hv hx _) (fun s1 h1 => bd_ex (eX4_sign hv' hy _) (fun s2 h2 => ?_))
  refine lp_inv (fun k v => v.1 = nI k ∧ ∀ p, p < k → v.2.1 p = nI (odF z p) ∧ v.2.2 p = nI (alk (sgL (lsM G m')) (sgL (lsM F m) p) n')) _ n ⟨rfl, fun p hp => absurd hp (Nat.not_lt_zero p)⟩ (fun k v hk hI => Or.inl ?_) (fun v hI => ?_) (lpN_gt (by omega))
  · obtain ⟨vk, vo, va⟩ := v
    obtain ⟨g1, g2⟩ := hI
    dsimp only at g1 g2
    subst g1
    have hok : okI (nI k) 8 = true := p_ok (by omega) (by decide)
    have J : ∀ w, nI w = nI (odF z k) → ∃ s', fX4_begin_J58 y s1 s2 (nI k, vo, va) (nI w) = some (.inl s') ∧ (s'.1 = nI (k + 1) ∧ ∀ p, p < k + 1 → s'.2.1 p = nI (odF z p) ∧ s'.2.2 p = nI (alk (sgL (lsM G m')) (sgL (lsM F m) p) n')) := fun w hw => by
      unfold fX4_begin_J58
      dsimp only
      rw [ck_t hok, ck_t hok, p_ix (by omega), hy.1, h1 k hk, bd_s (eX4_alike hn' h2 _), ck_t hok, p_s1]
      refine ⟨_, rfl, rfl, fun p hp => ?_⟩
      dsimp only
      by_cases e : p = k
      · rw [e, upd_at, upd_at]
        exact ⟨hw, rfl⟩
      · rw [upd_ne _ _ e, upd_ne _ _ e]
        exact g2 p (by omega)
    unfold fX4_begin_L19
    dsimp only
    rw [hx.1, if_neg (nI_ge hk (by omega)), ifq0 (by omega)]
    by_cases e0 : k = 0
    · rw [if_pos e0]
      exact J z (by unfold odF; rw [if_pos e0])
    · rw [if_neg e0]
      by_cases e1 : z < k
      · rw [if_pos (nI_lt e1 (by omega))]
        exact J k (by unfold odF; rw [if_neg e0, if_pos e1])
      · rw [if_neg (nI_nlt (by omega) (by omega)), show nI k - 1 = nI (k - 1) from p_sub (b := 1) (by omega)]
        exact J (k - 1) (by unfold odF; rw [if_neg e0, if_neg e1])
  · obtain ⟨vk, vo, va⟩ := v
    obtain ⟨g1, g2⟩ := hI
    dsimp only at g1 g2
    subst g1
    unfold fX4_begin_L19
    dsimp only
    rw [hx.1, if_pos (nI_le (Nat.le_refl n) (by omega))]
    exact ⟨_, rfl, fun p hp => (g2 p hp).1, fun p hp => (g2 p hp).2, h1⟩
theorem eX4_sigsMatch {o : OX4} {S : Nat → Int64} {al : Nat → Nat} (hn : n ≤ 8) (hs : ∀ p, p < n → q4_signatures o p = S p) (ha : ∀ p, p < n → q4_allowed o p = nI (al p)) (hal : ∀ p, p < n → al p < 256) : ∃ v, fX4_signaturesMatch o (nI n) = some v ∧ YN v (∀ p, p < n → pc (alk S (S p) n) = pc (al p)) := by
  have h8 := p2_256 hn
  unfold fX4_signaturesMatch
  refine lp_inv (fun k v => v = nI k ∧ ∀ p, p < k → pc (alk S (S p) n) = pc (al p)) _ n ⟨rfl, fun p hp => absurd hp (Nat.not_lt_zero p)⟩ (fun k v hk hI => ?_) (fun v hI => ?_) (lpN_gt (by omega))
  · obtain ⟨rfl, h2⟩ := hI
    have hok : okI (nI k) 8 = true := p_ok (by omega) (by decide)
    have hlt := alk_lt S (S k) n
    have hp1 := pc_le (alk S (S k) n)
    have hp2 := pc_le (al k)
    unfold fX4_signaturesMatch_L2
    rw [if_neg (nI_ge hk (by omega)), ck_t hok, p_ix (by omega), hs k hk, bd_s (eX4_alike hn hs _), bd_s (bitCount_pc (by omega)), ck_t hok, ha k hk, bd_s (bitCount_pc (hal k hk)), ifq (by omega) (by omega), p_s1]
    by_cases e : pc (alk S (S k) n) = pc (al k)
    · rw [if_pos e]
      refine Or.inl ⟨_, rfl, rfl, fun p hp => ?_⟩
      by_cases g : p = k
      · rw [g]; exact e
      · exact h2 p (by omega)
    · rw [if_neg e]
      exact Or.inr ⟨_, rfl, Or.inr ⟨rfl, fun z => e (z k hk)⟩⟩
  · obtain ⟨rfl, h2⟩ := hI
    unfold fX4_signaturesMatch_L2
    rw [if_pos (nI_le (Nat.le_refl n) (by omega))]
    exact ⟨_, rfl, Or.inl ⟨rfl, h2⟩⟩
theorem elS_cg {ok ok' : List Nat → Bool} : ∀ d (pre : List Nat), (∀ l, l.length = pre.length + d → ok l = ok' l) → elS ok n d pre = elS ok' n d pre := by
  intro d
  induction d with
  | zero =>
    intro pre h
    show (if ok pre = true then [pre] else []) = (if ok' pre = true then [pre] else [])
    rw [h pre rfl]
  | succ d ih =>
    intro pre h
    have e : (fun q => elS ok n d (pre ++ [q])) = fun q => elS ok' n d (pre ++ [q]) := funext fun q => ih _ fun l hl => h l (by rw [len_1] at hl; omega)
    rw [elS_s, elS_s, e]
/-- the identity order, and nothing forbidden that an isomorphism does: all isomorphisms -/
theorem okA_all {od al : Nat → Nat} (hod : ∀ p, p < n → od p = p) (hal : ∀ g, IsoF n m F G g → ∀ p, p < n → (al p).testBit (g p) = true) : elS (okA n m F G od al) n n [] = elS (isoB n m F G) n n [] := by
  have hij : IjN n od := ⟨fun p hp => by rw [hod p hp]; exact hp, fun p q hp hq e => by rw [hod p hp, hod q hq] at e; exact e⟩
  have hiv : ∀ p, p < n → ivS od p n = p := fun p hp => by
    have h := hij.inv.2 p hp
    rw [hod p hp] at h
    exact h
  refine elS_cg n [] fun l _ => Bool.eq_iff_iff.mpr ?_
  rw [okA_t, isoB_t]
  constructor
  · rintro ⟨h1, _⟩
    refine h1.congr fun p hp => ?_
    show l.getD (ivS od p n) 0 = l.getD p 0
    rw [hiv p hp]
  · intro h
    refine ⟨h.congr fun p hp => ?_, fun i hi => ?_⟩
    · show l.getD p 0 = l.getD (ivS od p n) 0
      rw [hiv p hp]
    · rw [hod i hi]
      exact hal (xl l) h i hi
theorem alk_iso (hn : n ≤ 8) (hF : ∀ f, f < m → F f < 2 ^ n) {g : Nat → Nat} (h : IsoF n m F G g) {p : Nat} (hp : p < n) : (alk (sgL (lsM G m)) (sgL (lsM F m) p) n).testBit (g p) = true := (tb_alk _ _ _ _).mpr ⟨h.1.1 p hp, (h.sig hn hF hp).symm⟩
theorem eX4_find {o : OX4} {x y : OX2} (hv : IncV n m F) (hv' : IncV n' m' G) (hx : IncR n m F x) (hy : IncR n' m' G y) : ∃ r, fX4_find o x y = some r ∧ ((r.1 = 1 ∧ isoT n m F n' m' G ≠ [] ∧ ∀ i, i < n → q4_image r.2 i = nI (((isoT n m F n' m' G).headD []).getD i 0)) ∨ (r.1 = 0 ∧ isoT n m F n' m' G = [])) := by
  have hn := hv.2.1
  have h1n := hv.1
  have h8' := p2_256 hv'.2.1
  have hal : ∀ p, p < n → alk (sgL (lsM G m')) (sgL (lsM F m) p) n' < 256 := fun p _ => by
    have := alk_lt (sgL (lsM G m')) (sgL (lsM F m) p) n'
    omega
  have hAll : n' = n → m' = m → elS (okA n m F G (odF 0) (fun p => alk (sgL (lsM G m')) (sgL (lsM F m) p) n')) n n [] = elS (isoB n m F G) n n [] := fun q1 q2 => by
    refine okA_all (fun p _ => odF_0 p) (fun g hg p hp => ?_)
    rw [q1, q2]
    exact alk_iso hn hv.2.2.2 hg hp
  unfold fX4_find
  refine bd_ex (eX4_begin (z := 0) hv hv' hx hy (by omega)) (fun b hb => ?_)
  obtain ⟨b1, b2, b3⟩ := hb
  rw [hx.1]
  refine bd_ex (eX4_sigsMatch (S := sgL (lsM F m)) (al := fun p => alk (sgL (lsM G m')) (sgL (lsM F m) p) n') hn (by exact b3) (by exact b2) hal) (fun v hvv => ?_)
  rcases hvv with ⟨rfl, v2⟩ | ⟨rfl, v2⟩
  · rw [if_neg n10]
    refine bd_ex (eX4_search (od := odF 0) (al := fun p => alk (sgL (lsM G m')) (sgL (lsM F m) p) n') hv hv' hx hy (odF_ij (by omega)) hal (by exact b1) (by exact b2)) (fun w hw => ?_)
    rcases hw with ⟨w1, w2, w3, w4, w5⟩ | ⟨w1, w2⟩
    · have e : isoT n m F n' m' G = elS (isoB n m F G) n n [] := by
        unfold isoT
        rw [if_pos w2, if_pos w3]
      rw [hAll w2 w3] at w4 w5
      rw [w1, if_neg n10, e]
      exact ⟨_, rfl, Or.inl ⟨rfl, w4, w5⟩⟩
    · rw [w1, if_pos (rfl : (0 : Int32) = 0)]
      refine ⟨_, rfl, Or.inr ⟨rfl, ?_⟩⟩
      unfold isoT
      by_cases q1 : n' = n
      · rw [if_pos q1]
        by_cases q2 : m' = m
        · rw [if_pos q2, ← hAll q1 q2]
          exact w2 q1 q2
        · rw [if_neg q2]
      · rw [if_neg q1]
  · rw [if_pos (rfl : (0 : Int32) = 0)]
    refine ⟨_, rfl, Or.inr ⟨rfl, ?_⟩⟩
    unfold isoT
    by_cases q1 : n' = n
    · rw [if_pos q1]
      by_cases q2 : m' = m
      · rw [if_pos q2]
        refine Classical.byContradiction fun hne => ?_
        obtain ⟨l, hl⟩ := List.exists_mem_of_ne_nil _ hne
        have hi := (mem_iso hl).1
        refine v2 fun p hp => ?_
        have := iso_alk hn hv.2.2.2 hi (sgL (lsM F m) p)
        rw [q1, q2]
        exact this
      · rw [if_neg q2]
    · rw [if_neg q1]
end FND

/-! Moebius numbers: the recursion, and the sum over the parts of a set (Rota) -/
theorem lsum_neg (l : List Nat) (v : Nat → Int32) : lsum l (fun t => - v t) = - lsum l v := by
  induction l with
  | nil => exact Int32.neg_zero.symm
  | cons a l ih => rw [lsum_cons, lsum_cons, ih, Int32.neg_add, Int32.sub_eq_add_neg]
theorem itn_lsub (P : Nat → Bool) (v : Nat → Int32) (a : Int32) (k : Nat) : itn (fun t x => if P t = true then x - v t else x) a k = a - lsum ((List.range k).filter P) v := by
  rw [Int32.sub_eq_add_neg, ← lsum_neg, ← itn_lsum P (fun t => - v t) a k]
  refine itn_congr k fun t x _ => ?_
  rw [Int32.sub_eq_add_neg]
section MU
variable (n m : Nat) (F : Nat → Nat)
/-- the faces from lo on below s -/
def bt (lo s : Nat) : List Nat := (List.range s).filter fun t => fcB n m F t && (sbB lo t && sbB t s)
def muT (lo k : Nat) : Nat → Int32 := itn (fun s G => upd G s (if s = lo then 1 else - lsum (bt n m F lo s) G)) (fun _ => 0) k
def mu (lo s : Nat) : Int32 := muT n m F lo (s + 1) s
/-- the sum over the parts between lo and up whose closure is t -/
def nu (lo up t : Nat) : Int32 := lsum (SB (dif up lo)) fun s => if t = cl n m F (lo ||| s) then sgn (pc s) else 0
variable {n m F}
theorem mem_bt {lo s t : Nat} (hs : s < 2 ^ n) : t ∈ bt n m F lo s ↔ t < s ∧ Fc n m F t ∧ Sb lo t ∧ Sb t s := by
  unfold bt
  rw [List.mem_filter, List.mem_range, Bool.and_eq_true, Bool.and_eq_true, sbB_t, sbB_t]
  refine ⟨fun h => ⟨h.1, (fcB_t (by omega)).mp h.2.1, h.2.2⟩, fun h => ⟨h.1, (fcB_t h.2.1.1).mpr h.2.1, h.2.2⟩⟩
theorem bt_nd (lo s : Nat) : (bt n m F lo s).Nodup := List.Nodup.sublist List.filter_sublist List.nodup_range
theorem bt_lt {lo s t : Nat} (h : t ∈ bt n m F lo s) : t < s := List.mem_range.mp (List.mem_filter.mp h).1
theorem muT_lt {lo k s : Nat} (h : s < k) : muT n m F lo k s = mu n m F lo s := by
  induction k with
  | zero => omega
  | succ k ih =>
    by_cases e : s = k
    · subst e; rfl
    · show upd (muT n m F lo k) k _ s = _
      rw [upd_ne _ _ e]
      exact ih (by omega)
theorem mu_eq (lo s : Nat) : mu n m F lo s = if s = lo then 1 else - lsum (bt n m F lo s) (mu n m F lo) := by
  show upd (muT n m F lo s) s _ s = _
  rw [upd_at]
  have e : lsum (bt n m F lo s) (muT n m F lo s) = lsum (bt n m F lo s) (mu n m F lo) := lsum_congr fun t ht => muT_lt (bt_lt ht)
  show (if s = lo then 1 else - lsum (bt n m F lo s) (muT n m F lo s)) = _
  rw [e]
theorem nu_sum (hn : n ≤ 8) {lo up t : Nat} (fu : Fc n m F up) (ft : Fc n m F t) (h1 : Sb lo t) (h2 : Sb t up) : lsum ((fl n m F).filter fun u => sbB lo u && sbB u t) (nu n m F lo up) = if dif t lo = 0 then 1 else 0 := by
  have h8 := p2_256 hn
  have hu := fu.1
  have ht := ft.1
  have hg : dif up lo < 256 := dif_lt (by omega)
  have hlu := Sb.tr h1 h2
  rw [← sum_sgn (dif_lt (b := lo) (show t < 256 by omega))]
  show lsum _ (fun u => lsum (SB (dif up lo)) fun s => if u = cl n m F (lo ||| s) then sgn (pc s) else 0) = _
  rw [lsum_comm ((fl n m F).filter fun u => sbB lo u && sbB u t) (SB (dif up lo)) (fun u s => if u = cl n m F (lo ||| s) then sgn (pc s) else 0)]
  have e : lsum (SB (dif up lo)) (fun s => lsum ((fl n m F).filter fun u => sbB lo u && sbB u t) fun u => if u = cl n m F (lo ||| s) then sgn (pc s) else 0) = lsum (SB (dif up lo)) (fun s => if sbB s t = true then sgn (pc s) else 0) := lsum_congr fun s hs => by
    have hs2 := (mem_SB hg).mp hs
    have hou := or_sb hlu hs2
    have hol := sb_lt hou hu
    have hcl := fc_cl n m F (lo ||| s)
    have hex := cl_ext n m F hol
    by_cases g : Sb s t
    · rw [if_pos (sbB_t.mpr g)]
      refine lsum_at (List.Nodup.sublist List.filter_sublist fl_nodup) ?_ _
      rw [List.mem_filter, mem_fl hn, Bool.and_eq_true, sbB_t, sbB_t]
      exact ⟨hcl, Sb.tr (sb_orl _ _) hex, cl_le ft (sb_or.mpr ⟨h1, g⟩)⟩
    · rw [if_bf (sbB_f g)]
      have e0 : lsum ((fl n m F).filter fun u => sbB lo u && sbB u t) (fun u => if u = cl n m F (lo ||| s) then sgn (pc s) else 0) = lsum ((fl n m F).filter fun u => sbB lo u && sbB u t) (fun _ => 0) := lsum_congr fun u hu2 => if_neg fun z => g (by
        rw [List.mem_filter, Bool.and_eq_true, sbB_t, sbB_t, z] at hu2
        exact Sb.tr (Sb.tr (sb_orr _ _) hex) hu2.2.2)
      rw [e0, lsum_0]
  rw [e, ← lsum_filter]
  refine lsum_perm ((List.perm_ext_iff_of_nodup (List.Nodup.sublist List.filter_sublist (SB_nd _)) (SB_nd _)).mpr fun s => ?_) _
  rw [List.mem_filter, mem_SB hg, mem_SB (dif_lt (by omega)), sbB_t, sb_dif, sb_dif]
  exact ⟨fun q => ⟨q.2, q.1.2⟩, fun q => ⟨⟨Sb.tr q.1 h2, q.2⟩, q.1⟩⟩
theorem bt_perm (hn : n ≤ 8) {lo t : Nat} (ft : Fc n m F t) (h1 : Sb lo t) : ((fl n m F).filter fun u => sbB lo u && sbB u t).Perm (t :: bt n m F lo t) := by
  refine (List.perm_ext_iff_of_nodup (List.Nodup.sublist List.filter_sublist fl_nodup) (List.nodup_cons.mpr ⟨fun z => Nat.lt_irrefl _ (bt_lt z), bt_nd _ _⟩)).mpr fun u => ?_
  rw [List.mem_filter, mem_fl hn, Bool.and_eq_true, sbB_t, sbB_t, List.mem_cons, mem_bt ft.1]
  constructor
  · intro q
    by_cases e : u = t
    · exact Or.inl e
    · exact Or.inr ⟨q.2.2.lt e, q⟩
  · intro q
    rcases q with q | q
    · rw [q]; exact ⟨ft, h1, Sb.rf t⟩
    · exact q.2
theorem rota (hn : n ≤ 8) {lo up : Nat} (fu : Fc n m F up) : ∀ (d t : Nat), t ≤ d → Fc n m F t → Sb lo t → Sb t up → nu n m F lo up t = mu n m F lo t
  | d, t, hd, ft, h1, h2 => by
    have hs := nu_sum hn fu ft h1 h2
    rw [lsum_perm (bt_perm hn ft h1), lsum_cons] at hs
    have e : lsum (bt n m F lo t) (nu n m F lo up) = lsum (bt n m F lo t) (mu n m F lo) := lsum_congr fun u hu => by
      have hu2 := (mem_bt ft.1).mp hu
      match d, hd with
      | 0, hd => omega
      | d + 1, hd => exact rota hn fu d u (by omega) hu2.2.1 hu2.2.2.1 (Sb.tr hu2.2.2.2 h2)
    rw [e] at hs
    rw [mu_eq]
    by_cases g : t = lo
    · rw [if_pos g]
      rw [g, if_pos (Sb.rf lo).d] at hs
      have e0 : bt n m F lo lo = [] := List.eq_nil_iff_forall_not_mem.mpr fun u hu => by
        have q := (mem_bt (g ▸ ft.1)).mp hu
        have := q.2.2.1.le
        omega
      rw [e0] at hs
      rw [g, ← hs]
      exact (Int32.add_zero _).symm
    · rw [if_neg g]
      rw [if_neg (fun z => g (Sb.as (Sb.of z) h1))] at hs
      rw [← Int32.add_right_neg (lsum (bt n m F lo t) (mu n m F lo)), Int32.add_comm (lsum (bt n m F lo t) (mu n m F lo))] at hs
      exact (Int32.add_left_inj _).mp hs
theorem bt_idx (hn : n ≤ 8) {k f : Nat} (hf : f < nf n m F) : (((List.range f).filter fun g => sbB (fa n m F k) (fa n m F g) && sbB (fa n m F g) (fa n m F f)).map (fa n m F)).Perm (bt n m F (fa n m F k) (fa n m F f)) := by
  refine (List.perm_ext_iff_of_nodup (map_fa_nd (by omega) _) (bt_nd _ _)).mpr fun t => ?_
  rw [mem_bt (fa_fc hn hf).1, List.mem_map]
  refine ⟨fun ⟨g, h1, h2⟩ => ?_, fun h => ⟨ni n m F t, ?_, fa_ni hn h.2.1⟩⟩
  · rw [List.mem_filter, List.mem_range, Bool.and_eq_true, sbB_t, sbB_t] at h1
    rw [← h2]
    refine ⟨h1.2.2.lt fun z => ?_, fa_fc hn (by omega), h1.2⟩
    have := fa_inj (by omega) hf z
    omega
  · rw [List.mem_filter, List.mem_range, Bool.and_eq_true, sbB_t, sbB_t, fa_ni hn h.2.1]
    exact ⟨fa_lt hn hf h.2.1 h.2.2.2 (fun z => by have := h.1; omega), h.2.2⟩
theorem eX7_muIn {o : OX7} (hn : n ≤ 8) (hL : LaidR n m F (q7_closed o) (q7_faces o) (q7_rankOf o) (q7_placeOf o) (q7_faceMany o)) {k f : Nat} (hk : k < nf n m F) (hf : f < nf n m F) (c0 : Nat → Int32) (x4 : Int32) : ∃ y, fX7_layMobius_J25 o (nI k) (nI f, c0) x4 = some (.inl (nI (f + 1), upd c0 f y)) ∧ (f = k → y = x4) ∧ (f ≠ k → Sb (fa n m F k) (fa n m F f) → y = x4 - lsum ((List.range f).filter fun g => sbB (fa n m F k) (fa n m F g) && sbB (fa n m F g) (fa n m F f)) c0) := by
  have hnf := nf_256 (m := m) (F := F) hn
  unfold fX7_layMobius_J25
  dsimp only
  have hok : okI (nI f) 256 = true := p_ok (by omega) (by decide)
  rw [ck_t hok, p_ix (by omega)]
  have stop : (f = k ∨ ¬ Sb (fa n m F k) (fa n m F f)) → lp (fX7_layMobius_L28 o (nI k) (nI f, c0)) lpN (0, upd c0 f x4) = some (.inl (nI (f + 1), upd c0 f x4)) := fun hs => by
    refine lp_go (fun _ => (nI 0, upd c0 f x4)) 0 (fun j hj => absurd hj (Nat.not_lt_zero j)) ?_ (lpN_gt (by omega))
    unfold fX7_layMobius_L28
    dsimp only
    by_cases e : nI f ≤ nI 0
    · rw [if_pos e, p_s1]; rfl
    · rw [if_neg e, ifq (by omega) (by omega)]
      by_cases g : f = k
      · rw [if_pos g, p_s1]; rfl
      · rw [if_neg g, bd_s (eX7_isIn hn ?hlaid hk hf)]
        case hlaid => exact hL
        rcases hs with hs | hs
        · exact absurd hs g
        · rw [if0_f (sbB_f hs), p_s1]; rfl
  by_cases g : f = k
  · exact ⟨x4, stop (Or.inl g), fun _ => rfl, fun z => absurd g z⟩
  · by_cases gs : Sb (fa n m F k) (fa n m F f)
    · refine ⟨_, ?_, fun z => absurd z g, fun _ _ => rfl⟩
      rw [← itn_lsub (fun h => sbB (fa n m F k) (fa n m F h) && sbB (fa n m F h) (fa n m F f)) c0 x4 f]
      refine lp_cnt (fun h x => (nI h, upd c0 f x)) (fun h x => if (sbB (fa n m F k) (fa n m F h) && sbB (fa n m F h) (fa n m F f)) = true then x - c0 h else x) x4 f (fun _ _ => True) trivial (fun h x hh _ => ⟨?_, trivial⟩) (fun _ => ?_) (lpN_gt (by omega))
      · unfold fX7_layMobius_L28
        dsimp only
        rw [if_neg (nI_ge hh (by omega)), ifq (by omega) (by omega), if_neg g, bd_s (eX7_isIn hn ?hlaid hk hf), if0_t (sbB_t.mpr gs), ck_t hok, bd_s (eX7_isIn hn ?hlaid2 hk (by omega)), p_ix (by omega), p_ix (by omega), p_s1]
        case hlaid => exact hL
        case hlaid2 => exact hL
        rcases bool_ft (sbB (fa n m F k) (fa n m F h)) with q | q
        · rw [if0_f q, q, ck_t hok, Bool.false_and, if_neg Bool.false_ne_true, upd_at, Int32.sub_zero, upd_upd]
        · rw [if0_t q, q, Bool.true_and, bd_s (eX7_isIn hn ?hlaid3 (by omega) hf)]
          case hlaid3 => exact hL
          rcases bool_ft (sbB (fa n m F h) (fa n m F f)) with q2 | q2
          · rw [if0_f q2, q2, ck_t hok, if_neg Bool.false_ne_true, upd_at, Int32.sub_zero, upd_upd]
          · rw [if0_t q2, q2, ck_t (p_ok (by omega) (by decide)), ck_t hok, if_pos rfl, upd_at, upd_ne _ _ (by omega), upd_upd]
      · unfold fX7_layMobius_L28
        dsimp only
        rw [if_pos (nI_le (Nat.le_refl f) (by omega)), p_s1]
        rfl
    · exact ⟨x4, stop (Or.inr gs), fun z => absurd z g, fun _ z => absurd z gs⟩
theorem eX7_layMobius {o : OX7} (hn : n ≤ 8) (hL : LaidR n m F (q7_closed o) (q7_faces o) (q7_rankOf o) (q7_placeOf o) (q7_faceMany o)) {k : Nat} (hk : k < nf n m F) : ∃ c, fX7_layMobius o (nI k) = some (s7_counted o c) ∧ ∀ j, j < nf n m F → Sb (fa n m F k) (fa n m F j) → c j = mu n m F (fa n m F k) (fa n m F j) := by
  have hnf := nf_256 (m := m) (F := F) hn
  have key : ∃ z, fX7_layMobius o (nI k) = some z ∧ ∃ c, z = s7_counted o c ∧ ∀ j, j < nf n m F → Sb (fa n m F k) (fa n m F j) → c j = mu n m F (fa n m F k) (fa n m F j) := by
    unfold fX7_layMobius
    refine lp_inv (fun f v => v.1 = nI f ∧ ∀ j, j < f → Sb (fa n m F k) (fa n m F j) → v.2 j = mu n m F (fa n m F k) (fa n m F j)) _ (nf n m F) ⟨rfl, fun j hj => absurd hj (Nat.not_lt_zero j)⟩ (fun f v hf hI => Or.inl ?_) (fun v hI => ?_) (lpN_gt (by omega))
    · obtain ⟨vf, c0⟩ := v
      obtain ⟨h1, h2⟩ := hI
      dsimp only at h1 h2
      subst h1
      unfold fX7_layMobius_L2
      dsimp only
      rw [show q7_faceMany o = nI (nf n m F) from hL.2.2.1, if_neg (nI_ge hf (by omega)), ifq (by omega) (by omega)]
      by_cases q : f = k
      · rw [if_pos q]
        obtain ⟨y, y1, y2, _⟩ := eX7_muIn hn hL hk hf c0 1
        refine ⟨_, y1, rfl, fun j hj hs => ?_⟩
        show upd c0 f _ j = _
        by_cases z : j = f
        · rw [z, upd_at, y2 q, q, mu_eq, if_pos rfl]
        · rw [upd_ne _ _ z]; exact h2 j (by omega) hs
      · rw [if_neg q]
        obtain ⟨y, y1, _, y3⟩ := eX7_muIn hn hL hk hf c0 0
        refine ⟨_, y1, rfl, fun j hj hs => ?_⟩
        show upd c0 f _ j = _
        by_cases z : j = f
        · rw [z] at hs
          rw [z, upd_at, y3 q hs, mu_eq, if_neg (fun z2 => q (fa_inj hf hk z2)), Int32.zero_sub, ← lsum_perm (bt_idx hn hf), lsum_map]
          congr 1
          refine lsum_congr fun t ht => ?_
          rw [List.mem_filter, List.mem_range, Bool.and_eq_true, sbB_t] at ht
          exact h2 t ht.1 ht.2.1
        · rw [upd_ne _ _ z]; exact h2 j (by omega) hs
    · obtain ⟨vf, c0⟩ := v
      obtain ⟨h1, h2⟩ := hI
      dsimp only at h1 h2
      subst h1
      unfold fX7_layMobius_L2
      dsimp only
      rw [show q7_faceMany o = nI (nf n m F) from hL.2.2.1, if_pos (nI_le (Nat.le_refl _) (by omega))]
      exact ⟨_, rfl, c0, rfl, h2⟩
  obtain ⟨z, h1, c, rfl, h2⟩ := key
  exact ⟨c, h1, h2⟩
theorem eX3_tallyMobius {x : OX3} (hn : n ≤ 8) (hc : ClM n m F (q3_closed x)) {lo up : Nat} (hl : lo < 2 ^ n) (hu : up < 2 ^ n) (h : Sb lo up) : ∃ T, fX3_tallyMobius x (nI lo) (nI up) = some (s3_tally x T) ∧ ∀ t, Sb lo t → Sb t up → T t = nu n m F lo up t := by
  have h8 := p2_256 hn
  have hg : dif up lo < 256 := dif_lt (by omega)
  have hpc := pc_256 (dif up lo)
  obtain ⟨T0, t1, t2⟩ := eX3_clearTally x (lo := lo) (up := up) (by omega) (by omega) h
  have key : ∃ z, fX3_tallyMobius x (nI lo) (nI up) = some z ∧ ∃ T, z = s3_tally x T ∧ ∀ t, Sb lo t → Sb t up → T t = nu n m F lo up t := by
    unfold fX3_tallyMobius
    rw [bd_s t1, p_dif, bd_s (eX3_partsOf hg)]
    refine lp_inv (fun k v => v.1 = nI (sub (dif up lo) k) ∧ v.2.1 = nI k ∧ ∀ t, Sb lo t → Sb t up → v.2.2 t = lsum ((List.range k).map (sub (dif up lo))) fun s => if t = cl n m F (lo ||| s) then sgn (pc s) else 0) _ (2 ^ pc (dif up lo)) ⟨rfl, rfl, fun t a1 a2 => t2 t a1 a2⟩ (fun k v hk hI => Or.inl ?_) (fun v hI => ?_) (lpN_gt (by omega))
    · obtain ⟨vs, vk, T⟩ := v
      obtain ⟨h1, h2, h3⟩ := hI
      dsimp only at h1 h2 h3
      subst h1 h2
      unfold fX3_tallyMobius_L24
      dsimp only
      have hs := sub_sb hg hk
      have hsu := or_sb h hs
      have hol := sb_lt hsu hu
      have hcl := cl_lt n m F (lo ||| sub (dif up lo) k)
      have hs8 := Nat.lt_of_le_of_lt hs.le hg
      have hpk := pc_le (sub (dif up lo) k)
      have hok : okI (nI (cl n m F (lo ||| sub (dif up lo) k))) 256 = true := p_ok (by omega) (by decide)
      rw [if_neg (nI_ge hk (by omega)), p_or, ck_t (p_ok (by omega) (by decide)), p_ix (by omega), hc _ hol, ck_t hok, bd_s (bitCount_pc hs8), bd_s (eX3_signOf (by omega)), ck_t hok, p_dif, bd_s (eX3_partAfter hg hk), p_ix (by omega), p_s1]
      refine ⟨_, rfl, rfl, rfl, fun t a1 a2 => ?_⟩
      rw [List.range_succ, List.map_append, lsum_append, List.map_cons, List.map_nil, lsum_one, ← h3 t a1 a2]
      show upd T _ _ t = _
      by_cases e : t = cl n m F (lo ||| sub (dif up lo) k)
      · rw [if_pos e, e, upd_at]
      · rw [if_neg e, upd_ne _ _ e, Int32.add_zero]
    · obtain ⟨vs, vk, T⟩ := v
      obtain ⟨h1, h2, h3⟩ := hI
      dsimp only at h1 h2 h3
      subst h1 h2
      unfold fX3_tallyMobius_L24
      dsimp only
      rw [if_pos (nI_le (Nat.le_refl _) (by omega))]
      refine ⟨_, rfl, T, rfl, fun t a1 a2 => ?_⟩
      rw [h3 t a1 a2, sub_map hg]
      rfl
  obtain ⟨z, h1, T, rfl, h2⟩ := key
  exact ⟨T, h1, h2⟩
end MU

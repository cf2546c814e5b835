/-! how many faces are between two sets -/
theorem sb_dif {s up lo : Nat} : Sb s (dif up lo) ↔ Sb s up ∧ ∀ i, s.testBit i = true → lo.testBit i = false := by
  refine ⟨fun h => ⟨fun i hi => ?_, fun i hi => ?_⟩, fun h i hi => ?_⟩
  · have := h i hi; rw [tb_dif, Bool.and_eq_true] at this; exact this.1
  · have := h i hi; rw [tb_dif, Bool.and_eq_true, Bool.not_eq_true'] at this; exact this.2
  · rw [tb_dif, h.1 i hi, h.2 i hi]; rfl
theorem dif_or {s up lo : Nat} (h : Sb s (dif up lo)) : dif (lo ||| s) lo = s := Nat.eq_of_testBit_eq fun i => by
  rw [tb_dif, Nat.testBit_or]
  cases hs : s.testBit i
  · cases lo.testBit i <;> rfl
  · rw [(sb_dif.mp h).2 i hs]; rfl
theorem or_dif {lo t : Nat} (h : Sb lo t) : lo ||| dif t lo = t := Nat.eq_of_testBit_eq fun i => by
  rw [Nat.testBit_or, tb_dif]
  cases hl : lo.testBit i
  · cases t.testBit i <;> rfl
  · rw [h i hl]; rfl
theorem dif_sb {t up lo : Nat} (h : Sb t up) : Sb (dif t lo) (dif up lo) := fun i hi => by
  rw [tb_dif, Bool.and_eq_true] at hi ⊢
  exact ⟨h i hi.1, hi.2⟩
theorem or_sb {lo up s : Nat} (h : Sb lo up) (hs : Sb s (dif up lo)) : Sb (lo ||| s) up := sb_or.mpr ⟨h, (sb_dif.mp hs).1⟩
/-- all sets between two sets -/
def GP (lo up : Nat) : List Nat := (SB (dif up lo)).map fun s => lo ||| s
theorem mem_GP {lo up t : Nat} (hu : up < 256) (h : Sb lo up) : t ∈ GP lo up ↔ Sb lo t ∧ Sb t up := by
  unfold GP
  rw [List.mem_map]
  refine ⟨fun ⟨s, h1, h2⟩ => ?_, fun q => ⟨dif t lo, (mem_SB (dif_lt hu)).mpr (dif_sb q.2), or_dif q.1⟩⟩
  rw [← h2]
  exact ⟨sb_orl _ _, or_sb h ((mem_SB (dif_lt hu)).mp h1)⟩
theorem GP_nd {lo up : Nat} (hu : up < 256) : (GP lo up).Nodup := by
  unfold GP
  refine List.pairwise_map.mpr (List.Pairwise.imp_of_mem (fun {a b} ha hb hab e => hab ?_) (SB_nd _))
  have h1 := dif_or ((mem_SB (dif_lt hu)).mp ha)
  have h2 := dif_or ((mem_SB (dif_lt hu)).mp hb)
  rw [← h1, ← h2, e]
section BW
variable {n m : Nat} {F : Nat → Nat}
theorem fl_nodup : (fl n m F).Nodup := fl_nd 9
def btw (n m : Nat) (F : Nat → Nat) (lo up : Nat) : Nat := (fl n m F).countP fun s => sbB lo s && sbB s up
theorem bw_perm (hn : n ≤ 8) {lo up : Nat} (hu : up < 2 ^ n) (h : Sb lo up) : ((GP lo up).filter fun t => fcB n m F t).Perm ((fl n m F).filter fun s => sbB lo s && sbB s up) := by
  have h8 := p2_256 hn
  refine (List.perm_ext_iff_of_nodup (List.Nodup.sublist List.filter_sublist (GP_nd (by omega))) (List.Nodup.sublist List.filter_sublist fl_nodup)).mpr fun t => ?_
  rw [List.mem_filter, List.mem_filter, mem_GP (by omega) h, mem_fl hn, Bool.and_eq_true, sbB_t, sbB_t]
  refine ⟨fun q => ⟨(fcB_t (sb_lt q.1.2 hu)).mp q.2, q.1⟩, fun q => ⟨q.2, (fcB_t (sb_lt q.2.2 hu)).mpr q.1⟩⟩
theorem btw_gp (hn : n ≤ 8) {lo up : Nat} (hu : up < 2 ^ n) (h : Sb lo up) : (SB (dif up lo)).countP (fun s => fcB n m F (lo ||| s)) = btw n m F lo up := by
  have e := (bw_perm (m := m) (F := F) hn hu h).length_eq
  rw [← List.countP_eq_length_filter, ← List.countP_eq_length_filter] at e
  unfold btw
  rw [← e]
  unfold GP
  rw [List.countP_map]
  rfl
theorem eX3_countBetween {x : OX3} (hn : n ≤ 8) (h : LatR n m F x) {lo up : Nat} (hl : lo < 2 ^ n) (hu : up < 2 ^ n) : fX3_countBetween x (nI lo) (nI up) = some (nI (btw n m F lo up)) := by
  have h8 := p2_256 hn
  have hg : dif up lo < 256 := dif_lt (by omega)
  unfold fX3_countBetween
  rw [p_dif, p_dif, ifq0 (dif_lt (by omega))]
  by_cases g : dif lo up = 0
  · have hS := Sb.of g
    have hpc := pc_256 (dif up lo)
    rw [if_pos g, bd_s (eX3_partsOf hg)]
    refine lp_cnt (fun k c => (nI (sub (dif up lo) k), nI c, nI k)) (fun k x => if fcB n m F (lo ||| sub (dif up lo) k) = true then x + 1 else x) 0 (2 ^ pc (dif up lo)) (fun _ _ => True) trivial (fun k c hk _ => ⟨?_, trivial⟩) (fun _ => ?_) (lpN_gt (by omega))
    · unfold fX3_countBetween_L31
      dsimp only
      have hs := sub_sb hg hk
      have ht := sb_lt (or_sb hS hs) hu
      rw [if_neg (nI_ge hk (by omega)), p_or, bd_s (eX3_isFace hn h.cl ht)]
      unfold fX3_countBetween_J52
      rw [p_dif, eX3_partAfter hg hk, p_s1, p_s1]
      cases fcB n m F (lo ||| sub (dif up lo) k) <;> rfl
    · unfold fX3_countBetween_L31
      dsimp only
      rw [if_pos (nI_le (Nat.le_refl _) (by omega))]
      show ex (some (nI (cnt (fun k => fcB n m F (lo ||| sub (dif up lo) k)) (2 ^ pc (dif up lo))))) = _
      rw [cnt_sub hg (fun s => fcB n m F (lo ||| s)), btw_gp hn hu hS]
      rfl
  · rw [if_neg g]
    have : btw n m F lo up = 0 := by
      unfold btw
      rw [List.countP_eq_zero]
      refine fun s _ z => g ?_
      rw [Bool.and_eq_true, sbB_t, sbB_t] at z
      exact (Sb.tr z.1 z.2).d
    rw [this]; rfl
theorem eX7_betweenOf {o : OX7} (hn : n ≤ 8) (hL : LaidR n m F (q7_closed o) (q7_faces o) (q7_rankOf o) (q7_placeOf o) (q7_faceMany o)) {k l : Nat} (hk : k < nf n m F) (hl : l < nf n m F) : fX7_betweenOf o (nI k) (nI l) = some (nI (btw n m F (fa n m F k) (fa n m F l))) := by
  have hnf := nf_256 (m := m) (F := F) hn
  unfold fX7_betweenOf
  refine lp_cnt (fun t c => (nI c, nI t)) (fun t x => if (sbB (fa n m F k) (fa n m F t) && sbB (fa n m F t) (fa n m F l)) = true then x + 1 else x) 0 (nf n m F) (fun _ _ => True) trivial (fun t c ht _ => ⟨?_, trivial⟩) (fun _ => ?_) (lpN_gt (by omega))
  · unfold fX7_betweenOf_L5
    dsimp only
    rw [show q7_faceMany o = nI (nf n m F) from hL.2.2.1, if_neg (nI_ge ht (by omega)), bd_s (eX7_isIn hn hL hk ht), p_s1, p_s1]
    cases sbB (fa n m F k) (fa n m F t)
    · rw [if0_f rfl, Bool.false_and, if_neg Bool.false_ne_true, Int32.add_zero]
    · rw [if0_t rfl, Bool.true_and, bd_s (eX7_isIn hn hL ht hl)]
      cases sbB (fa n m F t) (fa n m F l)
      · rw [if0_f rfl, if_neg Bool.false_ne_true, Int32.add_zero]
      · rfl
  · unfold fX7_betweenOf_L5
    dsimp only
    rw [show q7_faceMany o = nI (nf n m F) from hL.2.2.1, if_pos (nI_le (Nat.le_refl _) (by omega))]
    show ex (some (nI (cnt (fun t => sbB (fa n m F k) (fa n m F t) && sbB (fa n m F t) (fa n m F l)) (nf n m F)))) = _
    rw [cnt_fa (fun s => sbB (fa n m F k) s && sbB s (fa n m F l))]
    rfl
theorem sk_32 {o : OX6} {r : OX7} (h : Rel o r) (x y : Int32) : SK_32 Rel o r x y := by
  obtain ⟨n, m, F, hv, hi, hl, hN, hL, hH, hS, hT⟩ := h
  have hn := hv.2.1
  have h8 := p2_256 hn
  have hnf := nf_256 (m := m) (F := F) hn
  obtain ⟨q, e, hq, ht⟩ := eX7_failsFaces (o := s7_thrown r 0) hv hN hL x y
  unfold SK_32 fX6_between fX7_between
  rw [eX6_checkFace hv hl x, eX6_checkFace hv hl y, bd_s e]
  dsimp only
  rcases bool_ft (okI x (nf n m F)) with hx | hx
  · rw [if_bf hx] at ht ⊢
    rw [hx]
    exact ⟨.inl 2, _, rfl, if_neg n10, sk_il rfl, ht.trans hc_2.symm, sk_vl, n, m, F, hv, hi, hl, hN, Or.inr hq, hH, hS, hT⟩
  · rw [if_pos hx] at ht ⊢
    rcases bool_ft (okI y (nf n m F)) with hy | hy
    · rw [if_bf hy] at ht ⊢
      rw [hx, hy]
      exact ⟨.inl 2, _, rfl, if_neg n10, sk_il rfl, ht.trans hc_2.symm, sk_vl, n, m, F, hv, hi, hl, hN, Or.inr hq, hH, hS, hT⟩
    · rw [if_pos hy] at ht ⊢
      obtain ⟨k, hk, rfl⟩ := okI_of hx (by omega)
      obtain ⟨l, hl2, rfl⟩ := okI_of hy (by omega)
      have hok : okI (nI k) 256 = true := p_ok (by omega) (by decide)
      have hok2 : okI (nI l) 256 = true := p_ok (by omega) (by decide)
      rw [hx, hy, Option.bind_some, xb_r, Option.bind_some, xb_r, if0_f (b := !(true && true)) rfl, ck_t hok, ck_t hok2, hl.2.2.1.f hk hnf, hl.2.2.1.f hl2 hnf, bd_s (eX3_countBetween hn hl (fa_fc hn hk).1 (fa_fc hn hl2).1), bd_s (eX7_betweenOf hn ?hlaid hk hl2)]
      case hlaid => exact hq.2
      exact ⟨_, _, rfl, rfl, sk_ir, ht, sk_vr rfl, n, m, F, hv, hi, hl, hN, Or.inr hq, hH, hS, hT⟩
end BW

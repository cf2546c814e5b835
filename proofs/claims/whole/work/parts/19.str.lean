theorem dJ0_length_8abf5_0 : decode cJ0_length_8abf5 0 = .ok (.aload_n 0, 1) := by decide +kernel
theorem dJ0_length_8abf5_1 : decode cJ0_length_8abf5 1 = .ok (.getfield 9, 3) := by decide +kernel
theorem dJ0_length_8abf5_4 : decode cJ0_length_8abf5 4 = .ok (.arraylength, 1) := by decide +kernel
theorem dJ0_length_8abf5_5 : decode cJ0_length_8abf5 5 = .ok (.aload_n 0, 1) := by decide +kernel
theorem dJ0_length_8abf5_6 : decode cJ0_length_8abf5 6 = .ok (.invokevirtual 335, 3) := by decide +kernel
theorem dJ0_length_8abf5_9 : decode cJ0_length_8abf5 9 = .ok (.ishr, 1) := by decide +kernel
theorem dJ0_length_8abf5_10 : decode cJ0_length_8abf5 10 = .ok (.ireturn, 1) := by decide +kernel
theorem dJ0_charAt_5068e_0 : decode cJ0_charAt_5068e 0 = .ok (.aload_n 0, 1) := by decide +kernel
theorem dJ0_charAt_5068e_1 : decode cJ0_charAt_5068e 1 = .ok (.invokevirtual 492, 3) := by decide +kernel
theorem dJ0_charAt_5068e_4 : decode cJ0_charAt_5068e 4 = .ok (.ifCond .eq 12, 3) := by decide +kernel
theorem dJ0_charAt_5068e_7 : decode cJ0_charAt_5068e 7 = .ok (.aload_n 0, 1) := by decide +kernel
theorem dJ0_charAt_5068e_8 : decode cJ0_charAt_5068e 8 = .ok (.getfield 9, 3) := by decide +kernel
theorem dJ0_charAt_5068e_11 : decode cJ0_charAt_5068e 11 = .ok (.iload_n 1, 1) := by decide +kernel
theorem dJ0_charAt_5068e_12 : decode cJ0_charAt_5068e 12 = .ok (.invokestatic 495, 3) := by decide +kernel
theorem dJ0_charAt_5068e_15 : decode cJ0_charAt_5068e 15 = .ok (.ireturn, 1) := by decide +kernel
theorem dJ0_charAt_5068e_16 : decode cJ0_charAt_5068e 16 = .ok (.aload_n 0, 1) := by decide +kernel
theorem dJ0_charAt_5068e_17 : decode cJ0_charAt_5068e 17 = .ok (.getfield 9, 3) := by decide +kernel
theorem dJ0_charAt_5068e_20 : decode cJ0_charAt_5068e 20 = .ok (.iload_n 1, 1) := by decide +kernel
theorem dJ0_charAt_5068e_21 : decode cJ0_charAt_5068e 21 = .ok (.invokestatic 498, 3) := by decide +kernel
theorem dJ0_charAt_5068e_24 : decode cJ0_charAt_5068e 24 = .ok (.ireturn, 1) := by decide +kernel
theorem dJ0_coder_7d493_0 : decode cJ0_coder_7d493 0 = .ok (.getstatic 38, 3) := by decide +kernel
theorem dJ0_coder_7d493_3 : decode cJ0_coder_7d493 3 = .ok (.ifCond .eq 10, 3) := by decide +kernel
theorem dJ0_coder_7d493_6 : decode cJ0_coder_7d493 6 = .ok (.aload_n 0, 1) := by decide +kernel
theorem dJ0_coder_7d493_7 : decode cJ0_coder_7d493 7 = .ok (.getfield 15, 3) := by decide +kernel
theorem dJ0_coder_7d493_10 : decode cJ0_coder_7d493 10 = .ok (.goto 4, 3) := by decide +kernel
theorem dJ0_coder_7d493_13 : decode cJ0_coder_7d493 13 = .ok (.iconst 1, 1) := by decide +kernel
theorem dJ0_coder_7d493_14 : decode cJ0_coder_7d493 14 = .ok (.ireturn, 1) := by decide +kernel
theorem dJ0_isLatin1_aae02_0 : decode cJ0_isLatin1_aae02 0 = .ok (.getstatic 38, 3) := by decide +kernel
theorem dJ0_isLatin1_aae02_3 : decode cJ0_isLatin1_aae02 3 = .ok (.ifCond .eq 14, 3) := by decide +kernel
theorem dJ0_isLatin1_aae02_6 : decode cJ0_isLatin1_aae02 6 = .ok (.aload_n 0, 1) := by decide +kernel
theorem dJ0_isLatin1_aae02_7 : decode cJ0_isLatin1_aae02 7 = .ok (.getfield 15, 3) := by decide +kernel
theorem dJ0_isLatin1_aae02_10 : decode cJ0_isLatin1_aae02 10 = .ok (.ifCond .ne 7, 3) := by decide +kernel
theorem dJ0_isLatin1_aae02_13 : decode cJ0_isLatin1_aae02 13 = .ok (.iconst 1, 1) := by decide +kernel
theorem dJ0_isLatin1_aae02_14 : decode cJ0_isLatin1_aae02 14 = .ok (.goto 4, 3) := by decide +kernel
theorem dJ0_isLatin1_aae02_17 : decode cJ0_isLatin1_aae02 17 = .ok (.iconst 0, 1) := by decide +kernel
theorem dJ0_isLatin1_aae02_18 : decode cJ0_isLatin1_aae02 18 = .ok (.ireturn, 1) := by decide +kernel
theorem dJ0_checkIndex_df160_0 : decode cJ0_checkIndex_df160 0 = .ok (.iload_n 0, 1) := by decide +kernel
theorem dJ0_checkIndex_df160_1 : decode cJ0_checkIndex_df160 1 = .ok (.iload_n 1, 1) := by decide +kernel
theorem dJ0_checkIndex_df160_2 : decode cJ0_checkIndex_df160 2 = .ok (.getstatic 1053, 3) := by decide +kernel
theorem dJ0_checkIndex_df160_5 : decode cJ0_checkIndex_df160 5 = .ok (.invokestatic 1059, 3) := by decide +kernel
theorem dJ0_checkIndex_df160_8 : decode cJ0_checkIndex_df160 8 = .ok (.pop, 1) := by decide +kernel
theorem dJ0_checkIndex_df160_9 : decode cJ0_checkIndex_df160 9 = .ok (.return_, 1) := by decide +kernel
theorem dJ1_charAt_3b067_0 : decode cJ1_charAt_3b067 0 = .ok (.iload_n 1, 1) := by decide +kernel
theorem dJ1_charAt_3b067_1 : decode cJ1_charAt_3b067 1 = .ok (.aload_n 0, 1) := by decide +kernel
theorem dJ1_charAt_3b067_2 : decode cJ1_charAt_3b067 2 = .ok (.arraylength, 1) := by decide +kernel
theorem dJ1_charAt_3b067_3 : decode cJ1_charAt_3b067 3 = .ok (.invokestatic 9, 3) := by decide +kernel
theorem dJ1_charAt_3b067_6 : decode cJ1_charAt_3b067 6 = .ok (.aload_n 0, 1) := by decide +kernel
theorem dJ1_charAt_3b067_7 : decode cJ1_charAt_3b067 7 = .ok (.iload_n 1, 1) := by decide +kernel
theorem dJ1_charAt_3b067_8 : decode cJ1_charAt_3b067 8 = .ok (.baload, 1) := by decide +kernel
theorem dJ1_charAt_3b067_9 : decode cJ1_charAt_3b067 9 = .ok (.sipush 255, 3) := by decide +kernel
theorem dJ1_charAt_3b067_12 : decode cJ1_charAt_3b067 12 = .ok (.iand, 1) := by decide +kernel
theorem dJ1_charAt_3b067_13 : decode cJ1_charAt_3b067 13 = .ok (.i2c, 1) := by decide +kernel
theorem dJ1_charAt_3b067_14 : decode cJ1_charAt_3b067 14 = .ok (.ireturn, 1) := by decide +kernel
theorem dJ3_checkIndex_8e157_0 : decode cJ3_checkIndex_8e157 0 = .ok (.iload_n 0, 1) := by decide +kernel
theorem dJ3_checkIndex_8e157_1 : decode cJ3_checkIndex_8e157 1 = .ok (.ifCond .lt 8, 3) := by decide +kernel
theorem dJ3_checkIndex_8e157_4 : decode cJ3_checkIndex_8e157 4 = .ok (.iload_n 0, 1) := by decide +kernel
theorem dJ3_checkIndex_8e157_5 : decode cJ3_checkIndex_8e157 5 = .ok (.iload_n 1, 1) := by decide +kernel
theorem dJ3_checkIndex_8e157_6 : decode cJ3_checkIndex_8e157 6 = .ok (.if_icmp .lt 10, 3) := by decide +kernel
theorem dJ3_checkIndex_8e157_9 : decode cJ3_checkIndex_8e157 9 = .ok (.aload_n 2, 1) := by decide +kernel
theorem dJ3_checkIndex_8e157_10 : decode cJ3_checkIndex_8e157 10 = .ok (.iload_n 0, 1) := by decide +kernel
theorem dJ3_checkIndex_8e157_11 : decode cJ3_checkIndex_8e157 11 = .ok (.iload_n 1, 1) := by decide +kernel
theorem dJ3_checkIndex_8e157_12 : decode cJ3_checkIndex_8e157 12 = .ok (.invokestatic 95, 3) := by decide +kernel
theorem dJ3_checkIndex_8e157_15 : decode cJ3_checkIndex_8e157 15 = .ok (.athrow, 1) := by decide +kernel
theorem dJ3_checkIndex_8e157_16 : decode cJ3_checkIndex_8e157 16 = .ok (.iload_n 0, 1) := by decide +kernel
theorem dJ3_checkIndex_8e157_17 : decode cJ3_checkIndex_8e157 17 = .ok (.ireturn, 1) := by decide +kernel
theorem myJ3_checkIndex_8e157 : MYs yJ3_checkIndex_8e157 cJ3_checkIndex_8e157 3 (some .int) 3 := ⟨mw_2_62, mw_2_63, mw_1_17, ⟨by decide +kernel, by decide +kernel⟩, by decide +kernel⟩
theorem myJ0_checkIndex_df160 : MYs yJ0_checkIndex_df160 cJ0_checkIndex_df160 2 none 2 := ⟨mw_2_57, mw_2_58, mw_1_15, ⟨by decide +kernel, by decide +kernel⟩, by decide +kernel⟩
theorem myJ1_charAt_3b067 : MYs yJ1_charAt_3b067 cJ1_charAt_3b067 2 (some .char) 2 := ⟨mw_2_54, mw_2_55, mw_1_16, ⟨by decide +kernel, by decide +kernel⟩, by decide +kernel⟩
theorem myJ0_coder_7d493 : MYv yJ0_coder_7d493 cJ0_coder_7d493 1 (some .byte) 0 := ⟨mw_2_40, mw_2_41, mw_2_42, mw_1_15, ⟨by decide +kernel, by decide +kernel⟩, by decide +kernel⟩
theorem myJ0_isLatin1_aae02 : MYv yJ0_isLatin1_aae02 cJ0_isLatin1_aae02 1 (some .boolean) 0 := ⟨mw_2_50, mw_2_51, mw_2_52, mw_1_15, ⟨by decide +kernel, by decide +kernel⟩, by decide +kernel⟩
theorem myJ0_length_8abf5 : MYv yJ0_length_8abf5 cJ0_length_8abf5 1 (some .int) 0 := ⟨mw_2_36, mw_2_37, mw_2_38, mw_1_15, ⟨by decide +kernel, by decide +kernel⟩, by decide +kernel⟩
theorem myJ0_charAt_5068e : MYv yJ0_charAt_5068e cJ0_charAt_5068e 2 (some .char) 1 := ⟨mw_2_46, mw_2_47, mw_2_48, mw_1_15, ⟨by decide +kernel, by decide +kernel⟩, by decide +kernel⟩
theorem sLen_lt {w : Nat} (hw : w < 6) : sLen.getD w 0 < 2 ^ 31 := by
  rcases (show w = 0 ∨ w = 1 ∨ w = 2 ∨ w = 3 ∨ w = 4 ∨ w = 5 by omega) with rfl | rfl | rfl | rfl | rfl | rfl <;> decide
theorem sCh_c : ∀ w, w < 6 → ∀ k, k < 8 → ((sCh w k &&& 255).toUInt32 % 65536).toInt32 = sCh w k ∧ narrow .char (.int (sCh w k)) = .int (sCh w k) := by decide +kernel
theorem sLen_8 : ∀ w, w < 6 → sLen.getD w 0 < 8 := by decide +kernel
theorem okI_ge {i : Int32} {n : Nat} (h : okI i n = true) : ¬ i < 0 := by
  unfold okI at h
  rw [Bool.and_eq_true, decide_eq_true_eq] at h
  exact h.1
theorem okI_lt {i : Int32} {n : Nat} (h : okI i n = true) : i.toNatClampNeg < n := by
  unfold okI at h
  rw [Bool.and_eq_true, decide_eq_true_eq, decide_eq_true_eq] at h
  exact h.2
theorem okI_ltI {i : Int32} {n : Nat} (h : okI i n = true) (hn : n < 2 ^ 31) : i < nI n := by
  obtain ⟨j, hj, rfl⟩ := vp_in_of (okI_in h) hn
  exact nI_lt hj hn
set_option maxRecDepth 100000 in
set_option maxHeartbeats 4000000 in
theorem kJ3_checkIndex (l : Launch) (hst : l.stackTraces = false) (Z : GZ) (Y : YZ) (i n : Int32) (fv : Value) (hf : fv = .null ∨ ∃ t, fv = .ref t) (h0 : ¬ i < 0) (h1 : i < n) : XI l Z Y yJ3_checkIndex_8e157 cJ3_checkIndex_8e157 3 .int 0 0 0 0 [.int i, .int n, fv] [] (.inr i) [] := by
  have key : ∀ fv : Value, fv.category = 1 → lv_args 0 [.int i, .int n, fv] = [(0, .int i), (1, .int n), (2, fv)] → (lg_sl [.int i, .int n, fv]).length ≤ 3 → XI l Z Y yJ3_checkIndex_8e157 cJ3_checkIndex_8e157 3 .int 0 0 0 0 [.int i, .int n, fv] [] (.inr i) [] := by
    intro fv _ hlv hsl
    refine XI_of hst (by decide +kernel) hsl (fun {p e s m args below meth c} A R hR Q hQ C D hr => ?_)
    rw [hlv]
    refine g_iload_n C dJ3_checkIndex_8e157_0 rfl 0 rfl ?_
    refine g_if_lt C 9 dJ3_checkIndex_8e157_1 (by decide) (fun z => absurd z h0) (fun _ => ?_)
    refine g_iload_n C dJ3_checkIndex_8e157_4 rfl 0 rfl ?_
    refine g_iload_n C dJ3_checkIndex_8e157_5 rfl 1 rfl ?_
    refine g_icmp_lt C 16 dJ3_checkIndex_8e157_6 (by decide) (fun _ => ?_) (fun z => absurd h1 z)
    refine g_iload_n C dJ3_checkIndex_8e157_16 rfl 0 rfl ?_
    subst hQ
    exact gx_iret C D rfl rfl hr (Nat.le_refl 0) (Nat.le_refl 0) dJ3_checkIndex_8e157_17 [] rfl (by decide)
  rcases hf with rfl | ⟨t, rfl⟩
  · exact key _ rfl rfl (Nat.le_of_ble_eq_true rfl)
  · exact key _ rfl rfl (Nat.le_of_ble_eq_true rfl)
set_option maxRecDepth 100000 in
set_option maxHeartbeats 4000000 in
theorem kJ0_checkIndex (l : Launch) (hst : l.stackTraces = false) (Z : GZ) (Y : YZ) (i n : Int32) (h0 : ¬ i < 0) (h1 : i < n) : XV l Z Y yJ0_checkIndex_df160 cJ0_checkIndex_df160 2 1 22 0 0 [.int i, .int n] [] (.inr 0) [] := by
  refine XV_of hst (by decide +kernel) (Nat.le_of_ble_eq_true rfl) (fun {p e s m args below meth c} A R hR Q hQ C D hr => ?_)
  refine g_lv [0, 1] [(0, .int i), (1, .int n)] rfl ?_
  refine g_iload_n C dJ0_checkIndex_df160_0 rfl 0 rfl ?_
  refine g_iload_n C dJ0_checkIndex_df160_1 rfl 1 rfl ?_
  obtain ⟨fv, hf, hZ⟩ : ∃ fv : Value, (fv = .null ∨ ∃ t, fv = .ref t) ∧ va_Z "jdk/internal/util/Preconditions" "SIOOBE_FORMATTER" "Ljava/util/function/BiFunction;" fv A s s.heap := by
    rcases D.1.2.2.2.1 with h | ⟨t, h⟩
    · exact ⟨_, Or.inl rfl, h⟩
    · exact ⟨_, Or.inr ⟨t, rfl⟩, h⟩
  refine gx_gets C hZ 1053 mw_2_59 rfl dJ0_checkIndex_df160_2 ?_
  refine gx_callSi C D (kJ3_checkIndex l hst Z Y i n fv hf h0 h1) myJ3_checkIndex_8e157 1059 mw_2_61 rfl [] [] [] (wr := []) rfl rfl (by decide) (by decide) (by decide) [] rfl (by decide) (Nat.le_of_ble_eq_true rfl) (by rw [hR]; exact Nat.le_of_ble_eq_true rfl) (by rw [hR]; exact Nat.le_of_ble_eq_true rfl) ⟨(by rw [hR]; exact Nat.le_of_ble_eq_true rfl), (by rw [hR]; exact Nat.le_of_ble_eq_true rfl)⟩ rfl dJ0_checkIndex_df160_5 ?_
  refine g_pop C dJ0_checkIndex_df160_8 rfl ?_
  subst hQ
  exact gx_vret C D rfl hr (Nat.le_refl 0) (Nat.le_refl 0) dJ0_checkIndex_df160_9 [] rfl (by decide)
set_option maxRecDepth 100000 in
set_option maxHeartbeats 4000000 in
theorem kJ1_charAt (l : Launch) (hst : l.stackTraces = false) (Z : GZ) (Y : YZ) (w : Nat) (hw : w < 6) (i : Int32) (hi : okI i (sLen.getD w 0) = true) : XI l Z Y yJ1_charAt_3b067 cJ1_charAt_3b067 2 .char 2 43 0 0 [.ref (Y.2.1 w), .int i] [] (.inr (sCh w (ix i))) [] := by
  refine XI_of hst (by decide +kernel) (Nat.le_of_ble_eq_true rfl) (fun {p e s m args below meth c} A R hR Q hQ C D hr => ?_)
  refine g_lv [0, 1] [(0, .ref (Y.2.1 w)), (1, .int i)] rfl ?_
  refine g_iload_n C dJ1_charAt_3b067_0 rfl 1 rfl ?_
  refine g_aload_n C dJ1_charAt_3b067_1 rfl 0 rfl ?_
  refine gx_tlen C (D.1.1.1 w hw).2.2.2 dJ1_charAt_3b067_2 ?_
  refine gx_callSv C D (kJ0_checkIndex l hst Z Y i (nI (sLen.getD w 0)) (okI_ge hi) (okI_ltI hi (sLen_lt hw))) myJ0_checkIndex_df160 9 mw_2_56 rfl [] [] [] (wr := []) rfl rfl (by decide) (by decide) (by decide) [] rfl (by decide) (Nat.le_of_ble_eq_true rfl) (by rw [hR]; exact Nat.le_of_ble_eq_true rfl) (by rw [hR]; exact Nat.le_of_ble_eq_true rfl) ⟨(by rw [hR]; exact Nat.le_of_ble_eq_true rfl), (by rw [hR]; exact Nat.le_of_ble_eq_true rfl)⟩ rfl dJ1_charAt_3b067_3 ?_
  refine g_aload_n C dJ1_charAt_3b067_6 rfl 0 rfl ?_
  refine g_iload_n C dJ1_charAt_3b067_7 rfl 1 rfl ?_
  refine gx_tb C (f := fun j => sCh w j) (D.1.1.1 w hw).2.2.2 hi dJ1_charAt_3b067_8 ?_
  refine g_sipush C 255 dJ1_charAt_3b067_9 (by decide) ?_
  refine g_iand C dJ1_charAt_3b067_12 ?_
  have hk : ix i < 8 := Nat.lt_trans (okI_lt hi) (sLen_8 w hw)
  refine gx_i2c C (sCh w (ix i)) dJ1_charAt_3b067_13 (sCh_c w hw _ hk).1 ?_
  subst hQ
  exact gx_iret C D rfl (sCh_c w hw _ hk).2 hr (Nat.le_refl 0) (Nat.le_refl 0) dJ1_charAt_3b067_14 [] rfl (by decide)
set_option maxRecDepth 100000 in
set_option maxHeartbeats 4000000 in
theorem kJ0_coder (l : Launch) (hst : l.stackTraces = false) (Z : GZ) (Y : YZ) (w : Nat) (hw : w < 6) : XI l Z Y yJ0_coder_7d493 cJ0_coder_7d493 1 .byte 0 0 0 0 [.ref (Y.1 w)] [] (.inr 0) [] := by
  refine XI_of hst (by decide +kernel) (Nat.le_of_ble_eq_true rfl) (fun {p e s m args below meth c} A R hR Q hQ C D hr => ?_)
  refine g_lv [0] [(0, .ref (Y.1 w))] rfl ?_
  refine gx_gets C D.1.2.2.1 38 mw_2_43 rfl dJ0_coder_7d493_0 ?_
  refine g_if_eq C 13 dJ0_coder_7d493_3 (by decide) (fun z => absurd z (by decide)) (fun _ => ?_)
  refine g_aload_n C dJ0_coder_7d493_6 rfl 0 rfl ?_
  refine gx_getf C (D.1.1.1 w hw).2.1 15 mw_7_156 rfl dJ0_coder_7d493_7 ?_
  refine g_goto C 14 dJ0_coder_7d493_10 (by decide) ?_
  subst hQ
  exact gx_iret C D rfl rfl hr (Nat.le_refl 0) (Nat.le_refl 0) dJ0_coder_7d493_14 [] rfl (by decide)
set_option maxRecDepth 100000 in
set_option maxHeartbeats 4000000 in
theorem kJ0_isLatin1 (l : Launch) (hst : l.stackTraces = false) (Z : GZ) (Y : YZ) (w : Nat) (hw : w < 6) : XI l Z Y yJ0_isLatin1_aae02 cJ0_isLatin1_aae02 1 .boolean 0 0 0 0 [.ref (Y.1 w)] [] (.inr 1) [] := by
  refine XI_of hst (by decide +kernel) (Nat.le_of_ble_eq_true rfl) (fun {p e s m args below meth c} A R hR Q hQ C D hr => ?_)
  refine g_lv [0] [(0, .ref (Y.1 w))] rfl ?_
  refine gx_gets C D.1.2.2.1 38 mw_2_43 rfl dJ0_isLatin1_aae02_0 ?_
  refine g_if_eq C 17 dJ0_isLatin1_aae02_3 (by decide) (fun z => absurd z (by decide)) (fun _ => ?_)
  refine g_aload_n C dJ0_isLatin1_aae02_6 rfl 0 rfl ?_
  refine gx_getf C (D.1.1.1 w hw).2.1 15 mw_7_156 rfl dJ0_isLatin1_aae02_7 ?_
  refine g_if_ne C 17 dJ0_isLatin1_aae02_10 (by decide) (fun z => absurd rfl z) (fun _ => ?_)
  refine g_iconst C 1 dJ0_isLatin1_aae02_13 (by decide) ?_
  refine g_goto C 18 dJ0_isLatin1_aae02_14 (by decide) ?_
  subst hQ
  exact gx_iret C D rfl rfl hr (Nat.le_refl 0) (Nat.le_refl 0) dJ0_isLatin1_aae02_18 [] rfl (by decide)
set_option maxRecDepth 100000 in
set_option maxHeartbeats 4000000 in
theorem kJ0_length (l : Launch) (hst : l.stackTraces = false) (Z : GZ) (Y : YZ) (w : Nat) (hw : w < 6) : XI l Z Y yJ0_length_8abf5 cJ0_length_8abf5 1 .int 1 20 0 0 [.ref (Y.1 w)] [] (.inr (nI (sLen.getD w 0))) [] := by
  refine XI_of hst (by decide +kernel) (Nat.le_of_ble_eq_true rfl) (fun {p e s m args below meth c} A R hR Q hQ C D hr => ?_)
  refine g_lv [0] [(0, .ref (Y.1 w))] rfl ?_
  refine g_aload_n C dJ0_length_8abf5_0 rfl 0 rfl ?_
  refine gx_getf C (D.1.1.1 w hw).2.2.1 9 mw_7_155 rfl dJ0_length_8abf5_1 ?_
  refine gx_tlen C (D.1.1.1 w hw).2.2.2 dJ0_length_8abf5_4 ?_
  refine g_aload_n C dJ0_length_8abf5_5 rfl 0 rfl ?_
  refine gx_callVi C D (kJ0_coder l hst Z Y w hw) (g_recvS D hw) myJ0_coder_7d493 335 mw_2_39 rfl [] [] [] (wr := []) rfl rfl (by decide) (by decide) (by decide) [] rfl (by decide) (Nat.le_of_ble_eq_true rfl) (by rw [hR]; exact Nat.le_of_ble_eq_true rfl) (by rw [hR]; exact Nat.le_of_ble_eq_true rfl) ⟨(by rw [hR]; exact Nat.le_of_ble_eq_true rfl), (by rw [hR]; exact Nat.le_of_ble_eq_true rfl)⟩ rfl dJ0_length_8abf5_6 ?_
  refine g_ishr C dJ0_length_8abf5_9 ?_
  subst hQ
  exact gx_iret C D (by rw [sb_shr0]) rfl hr (Nat.le_refl 0) (Nat.le_refl 0) dJ0_length_8abf5_10 [] rfl (by decide)
set_option maxRecDepth 100000 in
set_option maxHeartbeats 4000000 in
theorem kJ0_charAt (l : Launch) (hst : l.stackTraces = false) (Z : GZ) (Y : YZ) (w : Nat) (hw : w < 6) (i : Int32) (hi : okI i (sLen.getD w 0) = true) : XI l Z Y yJ0_charAt_5068e cJ0_charAt_5068e 2 .char 3 64 0 0 [.ref (Y.1 w), .int i] [] (.inr (sCh w (ix i))) [] := by
  refine XI_of hst (by decide +kernel) (Nat.le_of_ble_eq_true rfl) (fun {p e s m args below meth c} A R hR Q hQ C D hr => ?_)
  refine g_lv [0, 1] [(0, .ref (Y.1 w)), (1, .int i)] rfl ?_
  refine g_aload_n C dJ0_charAt_5068e_0 rfl 0 rfl ?_
  refine gx_callVi C D (kJ0_isLatin1 l hst Z Y w hw) (g_recvS D hw) myJ0_isLatin1_aae02 492 mw_2_49 rfl [] [] [] (wr := []) rfl rfl (by decide) (by decide) (by decide) [] rfl (by decide) (Nat.le_of_ble_eq_true rfl) (by rw [hR]; exact Nat.le_of_ble_eq_true rfl) (by rw [hR]; exact Nat.le_of_ble_eq_true rfl) ⟨(by rw [hR]; exact Nat.le_of_ble_eq_true rfl), (by rw [hR]; exact Nat.le_of_ble_eq_true rfl)⟩ rfl dJ0_charAt_5068e_1 ?_
  refine g_if_eq C 16 dJ0_charAt_5068e_4 (by decide) (fun z => absurd z (by decide)) (fun _ => ?_)
  refine g_aload_n C dJ0_charAt_5068e_7 rfl 0 rfl ?_
  refine gx_getf C (D.1.1.1 w hw).2.2.1 9 mw_7_155 rfl dJ0_charAt_5068e_8 ?_
  refine g_iload_n C dJ0_charAt_5068e_11 rfl 1 rfl ?_
  refine gx_callSi C D (kJ1_charAt l hst Z Y w hw i hi) myJ1_charAt_3b067 495 mw_2_53 rfl [] [] [] (wr := []) rfl rfl (by decide) (by decide) (by decide) [] rfl (by decide) (Nat.le_of_ble_eq_true rfl) (by rw [hR]; exact Nat.le_of_ble_eq_true rfl) (by rw [hR]; exact Nat.le_of_ble_eq_true rfl) ⟨(by rw [hR]; exact Nat.le_of_ble_eq_true rfl), (by rw [hR]; exact Nat.le_of_ble_eq_true rfl)⟩ rfl dJ0_charAt_5068e_12 ?_
  have hk : ix i < 8 := Nat.lt_trans (okI_lt hi) (sLen_8 w hw)
  subst hQ
  exact gx_iret C D rfl (sCh_c w hw _ hk).2 hr (Nat.le_refl 0) (Nat.le_refl 0) dJ0_charAt_5068e_15 [] rfl (by decide)

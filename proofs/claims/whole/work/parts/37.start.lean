theorem st_arr {args : Array Value} {s : State} {ty : FieldType} (hp : (match ty with | .object _ => False | _ => True)) (h : (Cond.arrayClass ty).before args s = true) : ∃ cA : ClassId, ArrOfT s cA ty ∧ va_RA s cA ty := by
  obtain ⟨cA, kA, comp, h1, h2, h3⟩ := Cond.arrayClass_spec h
  refine ⟨cA, fun n z => ⟨fun k h => (by cases h), kA, h2, comp, h3⟩, ?_⟩
  cases ty <;> first | exact h1 | exact hp.elim
theorem st_arq {args : Array Value} {s : State} {n : String} (h : (Cond.arrayOver (.object n)).before args s = true) : ∃ cA : ClassId, ArrOfT s cA (.object n) ∧ va_RA s cA (.object n) := by
  obtain ⟨comp, c, k, h1, h2, h3, h4, h5⟩ := Cond.arrayOver_spec h
  exact ⟨c, fun n z => ⟨fun k h => (by cases h), k, h3, comp, h4⟩, k, comp, h3, h4, h1, h5⟩
theorem st_eqr {args : Array Value} {s : State} {t t2 : Term} {a : Nat} (h : (Cond.eq t t2).before args s = true) (ht : t.eval args s none [] s = some (.ref a)) : t2.eval args s none [] s = some (.ref a) := by
  cases hv : t2.eval args s none [] s with
  | none => simp [Cond.before, Cond.holds, Cond.value, hv, ht] at h
  | some v => cases v <;> simp_all [Cond.before, Cond.holds, Cond.value]
theorem st_K {args : Array Value} {s : State} (hts : ∀ w ∈ lw_tbl, w.before args s = true) : ∃ Z : GZ, va_K (zD Z) vwCl (zT Z) s := by
  have hgw : ∀ w ∈ gw, w.before args s = true := fun w hw => hts w (List.mem_filter.mp hw).1
  obtain ⟨c0, i0, hk0⟩ := u_known (C := RX0) (T := TX0) (N := 2) (n := 2) hgw gin0 (hgw _ mw_1_143)
  obtain ⟨c1, i1, hk1⟩ := u_known (C := RX1) (T := TX1) (N := 3) (n := 3) hgw gin1 (hgw _ mw_1_57)
  obtain ⟨c2, i2, hk2⟩ := u_known (C := RX2) (T := TX2) (N := 3) (n := 3) hgw gin2 (hgw _ mw_1_64)
  obtain ⟨c3, i3, hk3⟩ := u_known (C := RX3) (T := TX3) (N := 9) (n := 9) hgw gin3 (hgw _ mw_1_103)
  obtain ⟨c4, i4, hk4⟩ := u_known (C := RX4) (T := TX4) (N := 8) (n := 8) hgw gin4 (hgw _ mw_1_157)
  obtain ⟨c5, i5, hk5⟩ := u_known (C := RX5) (T := TX5) (N := 5) (n := 5) hgw gin5 (hgw _ mw_1_33)
  obtain ⟨c6, i6, hk6⟩ := u_known (C := RX6) (T := TX6) (N := 9) (n := 9) hgw gin6 (hgw _ mw_1_25)
  obtain ⟨c7, i7, hk7⟩ := u_known (C := RX7) (T := TX7) (N := 28) (n := 28) hgw gin7 (hgw _ mw_5_80)
  obtain ⟨zi, hi1, hi2⟩ := st_arr (ty := .int) trivial (hgw _ mw_1_55)
  obtain ⟨zj, hj1, hj2⟩ := st_arr (ty := .long) trivial (hgw _ mw_1_188)
  obtain ⟨zq, hq1, hq2⟩ := st_arq (n := RX2) (hts _ (gw_t1 (List.mem_of_getElem? (i := 63) rfl)))
  refine ⟨(fun k => match k with | 0 => c0 | 1 => c1 | 2 => c2 | 3 => c3 | 4 => c4 | 5 => c5 | 6 => c6 | _ => c7, fun k => match k with | 0 => i0 | 1 => i1 | 2 => i2 | 3 => i3 | 4 => i4 | 5 => i5 | 6 => i6 | _ => i7, zi, zj, zq), ?_, ?_⟩
  · intro c q hc
    match c, hc with
    | 0, hc => cases hc; exact hk0
    | 1, hc => cases hc; exact hk1
    | 2, hc => cases hc; exact hk2
    | 3, hc => cases hc; exact hk3
    | 4, hc => cases hc; exact hk4
    | 5, hc => cases hc; exact hk5
    | 6, hc => cases hc; exact hk6
    | 7, hc => cases hc; exact hk7
    | k + 8, hc => simp [vwCl] at hc
  · intro k q hk
    match k, hk with
    | 0, hk => cases hk; exact ⟨hi1, hi2⟩
    | 1, hk => cases hk; exact ⟨hj1, hj2⟩
    | 2, hk => cases hk; exact ⟨hq1, hq2⟩
    | k + 3, hk => simp at hk
abbrev nwl : List Cond := flatC (Cond.and given_1 narrow_1)
def tmC (i : Nat) : Term := .string "FaceLattice$SetupText" (sIxC.getD i 0)
def tmM (i : Nat) : Term := .string "FaceLatticeModel" (sIxM.getD i 0)
theorem nw_ex : ∀ i, i < 6 → Cond.exactly (tmC i) "java/lang/String" ∈ nwl := by decide +kernel
theorem nw_co : ∀ i, i < 6 → Cond.eq (.field (tmC i) "java/lang/String" "coder" "B") (.int 0) ∈ nwl := by decide +kernel
theorem nw_ar : ∀ i, i < 6 → Cond.arrayOf (.field (tmC i) "java/lang/String" "value" "[B") .byte ∈ nwl := by decide +kernel
theorem nw_le : ∀ i, i < 6 → Cond.eq (.length (.field (tmC i) "java/lang/String" "value" "[B")) (.int (Int32.ofNat (sLen.getD i 0))) ∈ nwl := by decide +kernel
theorem nw_el : ∀ i, i < 6 → ∀ j, j < sLen.getD i 0 → Cond.eq (.elem (.field (tmC i) "java/lang/String" "value" "[B") (.int (Int32.ofNat j))) (.int ((sByt.getD i []).getD j 0)) ∈ nwl := by decide +kernel
theorem nw_ne : ∀ i, i < 6 → ∀ j, j < 6 → i ≠ j → Cond.not (Cond.eq (tmC i) (tmC j)) ∈ nwl ∨ Cond.not (Cond.eq (tmC j) (tmC i)) ∈ nwl := by decide +kernel
theorem nw_cm : ∀ i, i < 6 → Cond.eq (tmC i) (tmM i) ∈ nwl := by decide +kernel
theorem nw_cs : Cond.eq (.static "java/lang/String" "COMPACT_STRINGS" "Z") (.int 1) ∈ nwl := by decide +kernel
theorem nw_sf : Cond.isRef (.static "jdk/internal/util/Preconditions" "SIOOBE_FORMATTER" "Ljava/util/function/BiFunction;") ∈ nwl := by decide +kernel
theorem nw_us : Cond.isRef (.static Bundle.tN "UNASSIGNED_STACK" Bundle.steD) ∈ nwl := by decide +kernel
theorem nw_ss : Cond.isRef (.static Bundle.tN "SUPPRESSED_SENTINEL" Bundle.listD) ∈ nwl := by decide +kernel
def tmL : Term := .static "FaceLattice$SetupText" "LEAST" "[I"
def tmT : Term := .static "FaceLattice$SetupText" "MOST" "[I"
theorem nw_l1 : Cond.arrayOf tmL .int ∈ nwl := by decide +kernel
theorem nw_l2 : Cond.eq (.length tmL) (.int (Int32.ofNat 5)) ∈ nwl := by decide +kernel
theorem nw_l3 : ∀ j, j < 5 → Cond.eq (.elem tmL (.int (Int32.ofNat j))) (.int (tLeast j)) ∈ nwl := by decide +kernel
theorem nw_m1 : Cond.arrayOf tmT .int ∈ nwl := by decide +kernel
theorem nw_m2 : Cond.eq (.length tmT) (.int (Int32.ofNat 5)) ∈ nwl := by decide +kernel
theorem nw_m3 : ∀ j, j < 5 → Cond.eq (.elem tmT (.int (Int32.ofNat j))) (.int (tMost j)) ∈ nwl := by decide +kernel
theorem nw_nc : ∀ q ∈ xNo, Cond.not (.castable (exn q.1) (exn q.2)) ∈ nwl := by decide +kernel
theorem sr_C : ∀ i, i < 6 → Cond.stringRef "FaceLattice$SetupText" (sIxC.getD i 0) (sTx.getD i "") ∈ tables_1 := by decide +kernel
theorem sr_M : ∀ i, i < 6 → Cond.stringRef "FaceLatticeModel" (sIxM.getD i 0) (sTx.getD i "") ∈ tables_1 := by decide +kernel
theorem sr_N : ∀ q ∈ xNest, Cond.methodLinkNest q.1 q.2.1 ⟨q.2.2, "<init>", "()V"⟩ "FaceLattice" ∈ tables_1 := by decide +kernel
theorem sr_D : ∀ q ∈ xDecl, Cond.declares ⟨q, "<init>", "()V"⟩ ∈ tables_1 := by decide +kernel
theorem sr_X : ∀ k, k < 4 → Cond.castable (exn k) (exn k) ∈ tables_1 := by decide +kernel
theorem st_X {args : Array Value} {s : State} (hts : ∀ w ∈ lw_tbl, w.before args s = true) (hgv : (Cond.and given_1 narrow_1).before args s = true) : ∃ Y : YZ, XT Y (fun q => s.heap.size ≤ q) s s.heap := by
  have hs := flat_of_before _ hgv
  have htt : ∀ w ∈ tables_1, w.before args s = true := fun w hw => hts w (List.mem_append_right _ hw)
  have hA : ∀ a : Nat, a < s.heap.size → ¬ (fun q => s.heap.size ≤ q) a := fun a h1 h2 => absurd h1 (Nat.not_lt.mpr h2)
  obtain ⟨aK, aV, hS, hE⟩ := vk_Sof (N := 6) (tm := tmC) (len := sLen) (byt := sByt) (A := fun q => s.heap.size ≤ q) (fun i hi => Nat.lt_of_lt_of_le (sLen_8 i hi) (by decide)) (fun i hi => hs _ (nw_ex i hi)) (fun i hi => hs _ (nw_co i hi)) (fun i hi => hs _ (nw_ar i hi)) (fun i hi => hs _ (nw_le i hi)) (fun i hi j hj => hs _ (nw_el i hi j hj)) (fun i j hi hj h => (nw_ne i hi j hj h).imp (hs _) (hs _)) hA
  obtain ⟨tl, hl1, hl2⟩ := va_Tof (tm := tmL) (ty := .int) (N := 5) (f := fun j => .int (tLeast j)) (A := fun q => s.heap.size ≤ q) (by decide) (hs _ nw_l1) (va_eqt (hs _ nw_l2)) (fun j hj => va_eqt (hs _ (nw_l3 j hj))) hA
  obtain ⟨tm, hm1, hm2⟩ := va_Tof (tm := tmT) (ty := .int) (N := 5) (f := fun j => .int (tMost j)) (A := fun q => s.heap.size ≤ q) (by decide) (hs _ nw_m1) (va_eqt (hs _ nw_m2)) (fun j hj => va_eqt (hs _ (nw_m3 j hj))) hA
  refine ⟨(aK, aV, tl, tm), hS, fun i hi => ⟨vk_R.of (htt _ (sr_C i hi)) (hE i hi), vk_R.of (htt _ (sr_M i hi)) (st_eqr (hs _ (nw_cm i hi)) (hE i hi))⟩, va_Zof (hts _ (gw_t2 (List.mem_of_getElem? (i := 44) rfl))) (hts _ (gw_t1 (List.mem_of_getElem? (i := 15) rfl))) (va_eqt (hs _ nw_cs)) hA, va_Zqof (hts _ (gw_t2 (List.mem_of_getElem? (i := 60) rfl))) (hts _ (gw_t1 (List.mem_of_getElem? (i := 17) rfl))) (hs _ nw_sf) hA, va_Zof (hts _ (gw_t2 (List.mem_of_getElem? (i := 92) rfl))) (hts _ (gw_t1 (List.mem_of_getElem? (i := 2) rfl))) hl1 hA, hl2, va_Zof (hts _ (gw_t2 (List.mem_of_getElem? (i := 94) rfl))) (hts _ (gw_t1 (List.mem_of_getElem? (i := 2) rfl))) hm1 hA, hm2, vx_Zqof (hts _ (gw_t3 (List.mem_of_getElem? (i := 105) rfl))) (hts _ (gw_t1 (List.mem_of_getElem? (i := 10) rfl))) (hs _ nw_us) hA, vx_Zqof (hts _ (gw_t3 (List.mem_of_getElem? (i := 107) rfl))) (hts _ (gw_t1 (List.mem_of_getElem? (i := 10) rfl))) (hs _ nw_ss) hA, ?_, fun q hq => va_Nw.of rfl (htt _ (sr_N q hq)), fun q hq => va_Nw.of rfl (htt _ (sr_D q hq))⟩
  intro k
  match k with
  | 0 => exact va_Nw.of rfl (htt _ (sr_X 0 (by decide)))
  | 1 => exact va_Nw.of rfl (htt _ (sr_X 1 (by decide)))
  | 2 => exact va_Nw.of rfl (htt _ (sr_X 2 (by decide)))
  | k + 3 => exact va_Nw.of rfl (htt _ (sr_X 3 (by decide)))
theorem st_N {args : Array Value} {s : State} (hgv : (Cond.and given_1 narrow_1).before args s = true) : XNo s := fun q hq => va_Nc.of (flat_of_before _ hgv _ (nw_nc q hq))
theorem st_O {args : Array Value} {s : State} (hts : ∀ w ∈ lw_tbl, w.before args s = true) : va_AO RX2 s := by
  have h : (Cond.arrayOver (.object RX2)).before args s = true := (hts _ (gw_t1 (List.mem_of_getElem? (i := 63) rfl)))
  first | exact va_tabs rfl rfl h | exact h

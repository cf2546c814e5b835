theorem mw_3_69 : (Jvm.Cond.codeWith ({ cls := "FaceLatticeLaw", name := "append", desc := "(LFaceLattice;IIIII[J)I" } : Jvm.MethodName) method_3_code (8 : Nat) (Option.some Jvm.ClassFile.FieldType.int) [((0 : Nat), (16 : Nat), (19 : Nat), (13 : Nat))]) ∈ gw := gw_of (gw_t3 (List.mem_of_getElem? (i := 69) rfl)) rfl
theorem mw_3_148 : (Jvm.Cond.codeWith ({ cls := "FaceLatticeLaw", name := "truncate", desc := "(LFaceLattice;I[J)I" } : Jvm.MethodName) method_4_code (4 : Nat) (Option.some Jvm.ClassFile.FieldType.int) [((0 : Nat), (9 : Nat), (12 : Nat), (19 : Nat))]) ∈ gw := gw_of (gw_t3 (List.mem_of_getElem? (i := 148) rfl)) rfl
theorem mw_3_171 : (Jvm.Cond.codeWith ({ cls := "FaceLatticeLaw", name := "load", desc := "(LFaceLattice;[J)I" } : Jvm.MethodName) method_5_code (3 : Nat) (Option.some Jvm.ClassFile.FieldType.int) [((0 : Nat), (8 : Nat), (11 : Nat), (19 : Nat))]) ∈ gw := gw_of (gw_t3 (List.mem_of_getElem? (i := 171) rfl)) rfl
theorem mw_3_182 : (Jvm.Cond.codeWith ({ cls := "FaceLatticeLaw", name := "setIncident", desc := "(LFaceLattice;IIZ[J)I" } : Jvm.MethodName) method_6_code (6 : Nat) (Option.some Jvm.ClassFile.FieldType.int) [((0 : Nat), (19 : Nat), (22 : Nat), (29 : Nat))]) ∈ gw := gw_of (gw_t3 (List.mem_of_getElem? (i := 182) rfl)) rfl
theorem mw_3_227 : (Jvm.Cond.codeWith ({ cls := "FaceLatticeLaw", name := "addFacet", desc := "(LFaceLattice;I[J)I" } : Jvm.MethodName) method_7_code (4 : Nat) (Option.some Jvm.ClassFile.FieldType.int) [((0 : Nat), (9 : Nat), (12 : Nat), (19 : Nat)), ((0 : Nat), (9 : Nat), (15 : Nat), (13 : Nat))]) ∈ gw := gw_of (gw_t3 (List.mem_of_getElem? (i := 227) rfl)) rfl
theorem mw_3_239 : (Jvm.Cond.codeWith ({ cls := "FaceLatticeLaw", name := "removeFacet", desc := "(LFaceLattice;I[J)I" } : Jvm.MethodName) method_8_code (4 : Nat) (Option.some Jvm.ClassFile.FieldType.int) [((0 : Nat), (9 : Nat), (12 : Nat), (29 : Nat))]) ∈ gw := gw_of (gw_t3 (List.mem_of_getElem? (i := 239) rfl)) rfl
theorem mw_4_10 : (Jvm.Cond.codeWith ({ cls := "FaceLatticeLaw", name := "dual", desc := "(LFaceLattice;[J)I" } : Jvm.MethodName) method_9_code (3 : Nat) (Option.some Jvm.ClassFile.FieldType.int) [((0 : Nat), (8 : Nat), (11 : Nat), (13 : Nat))]) ∈ gw := gw_of (gw_t4 (List.mem_of_getElem? (i := 10) rfl)) rfl
theorem mw_4_23 : (Jvm.Cond.codeWith ({ cls := "FaceLatticeLaw", name := "pyramid", desc := "(LFaceLattice;[J)I" } : Jvm.MethodName) method_10_code (3 : Nat) (Option.some Jvm.ClassFile.FieldType.int) [((0 : Nat), (8 : Nat), (11 : Nat), (13 : Nat))]) ∈ gw := gw_of (gw_t4 (List.mem_of_getElem? (i := 23) rfl)) rfl
theorem mw_4_30 : (Jvm.Cond.codeWith ({ cls := "FaceLatticeLaw", name := "stack", desc := "(LFaceLattice;I[J)I" } : Jvm.MethodName) method_11_code (4 : Nat) (Option.some Jvm.ClassFile.FieldType.int) [((0 : Nat), (9 : Nat), (12 : Nat), (29 : Nat)), ((0 : Nat), (9 : Nat), (15 : Nat), (13 : Nat))]) ∈ gw := gw_of (gw_t4 (List.mem_of_getElem? (i := 30) rfl)) rfl
theorem mw_4_46 : (Jvm.Cond.codeWith ({ cls := "FaceLatticeLaw", name := "cutOff", desc := "(LFaceLattice;I[J)I" } : Jvm.MethodName) method_12_code (4 : Nat) (Option.some Jvm.ClassFile.FieldType.int) [((0 : Nat), (9 : Nat), (12 : Nat), (29 : Nat)), ((0 : Nat), (9 : Nat), (15 : Nat), (13 : Nat))]) ∈ gw := gw_of (gw_t4 (List.mem_of_getElem? (i := 46) rfl)) rfl
theorem mw_4_73 : (Jvm.Cond.codeWith ({ cls := "FaceLatticeLaw", name := "keepFace", desc := "(LFaceLattice;I[J)I" } : Jvm.MethodName) method_13_code (4 : Nat) (Option.some Jvm.ClassFile.FieldType.int) [((0 : Nat), (9 : Nat), (12 : Nat), (29 : Nat)), ((0 : Nat), (9 : Nat), (15 : Nat), (13 : Nat))]) ∈ gw := gw_of (gw_t4 (List.mem_of_getElem? (i := 73) rfl)) rfl
theorem mw_4_84 : (Jvm.Cond.codeWith ({ cls := "FaceLatticeLaw", name := "figure", desc := "(LFaceLattice;I[J)I" } : Jvm.MethodName) method_14_code (4 : Nat) (Option.some Jvm.ClassFile.FieldType.int) [((0 : Nat), (9 : Nat), (12 : Nat), (29 : Nat)), ((0 : Nat), (9 : Nat), (15 : Nat), (13 : Nat))]) ∈ gw := gw_of (gw_t4 (List.mem_of_getElem? (i := 84) rfl)) rfl
theorem mw_4_95 : (Jvm.Cond.codeWith ({ cls := "FaceLatticeLaw", name := "undo", desc := "(LFaceLattice;[J)I" } : Jvm.MethodName) method_15_code (3 : Nat) (Option.some Jvm.ClassFile.FieldType.int) [((0 : Nat), (8 : Nat), (11 : Nat), (13 : Nat))]) ∈ gw := gw_of (gw_t4 (List.mem_of_getElem? (i := 95) rfl)) rfl
theorem mw_4_106 : (Jvm.Cond.codeWith ({ cls := "FaceLatticeLaw", name := "restore", desc := "(LFaceLattice;[J)I" } : Jvm.MethodName) method_16_code (3 : Nat) (Option.some Jvm.ClassFile.FieldType.int) [((0 : Nat), (8 : Nat), (11 : Nat), (13 : Nat))]) ∈ gw := gw_of (gw_t4 (List.mem_of_getElem? (i := 106) rfl)) rfl
theorem mw_4_113 : (Jvm.Cond.codeWith ({ cls := "FaceLatticeLaw", name := "facet", desc := "(LFaceLattice;I[J)I" } : Jvm.MethodName) method_17_code (4 : Nat) (Option.some Jvm.ClassFile.FieldType.int) [((0 : Nat), (9 : Nat), (12 : Nat), (29 : Nat))]) ∈ gw := gw_of (gw_t4 (List.mem_of_getElem? (i := 113) rfl)) rfl
theorem mw_4_120 : (Jvm.Cond.codeWith ({ cls := "FaceLatticeLaw", name := "facetsOf", desc := "(LFaceLattice;I[J)I" } : Jvm.MethodName) method_18_code (4 : Nat) (Option.some Jvm.ClassFile.FieldType.int) [((0 : Nat), (9 : Nat), (12 : Nat), (29 : Nat))]) ∈ gw := gw_of (gw_t4 (List.mem_of_getElem? (i := 120) rfl)) rfl
theorem mw_4_127 : (Jvm.Cond.codeWith ({ cls := "FaceLatticeLaw", name := "closure", desc := "(LFaceLattice;I[J)I" } : Jvm.MethodName) method_19_code (4 : Nat) (Option.some Jvm.ClassFile.FieldType.int) [((0 : Nat), (9 : Nat), (12 : Nat), (19 : Nat))]) ∈ gw := gw_of (gw_t4 (List.mem_of_getElem? (i := 127) rfl)) rfl
theorem mw_4_134 : (Jvm.Cond.codeWith ({ cls := "FaceLatticeLaw", name := "face", desc := "(LFaceLattice;I[J)I" } : Jvm.MethodName) method_20_code (4 : Nat) (Option.some Jvm.ClassFile.FieldType.int) [((0 : Nat), (9 : Nat), (12 : Nat), (29 : Nat))]) ∈ gw := gw_of (gw_t4 (List.mem_of_getElem? (i := 134) rfl)) rfl
theorem mw_4_141 : (Jvm.Cond.codeWith ({ cls := "FaceLatticeLaw", name := "rank", desc := "(LFaceLattice;I[J)I" } : Jvm.MethodName) method_21_code (4 : Nat) (Option.some Jvm.ClassFile.FieldType.int) [((0 : Nat), (9 : Nat), (12 : Nat), (29 : Nat))]) ∈ gw := gw_of (gw_t4 (List.mem_of_getElem? (i := 141) rfl)) rfl
theorem mw_4_148 : (Jvm.Cond.codeWith ({ cls := "FaceLatticeLaw", name := "ofRank", desc := "(LFaceLattice;I[J)I" } : Jvm.MethodName) method_22_code (4 : Nat) (Option.some Jvm.ClassFile.FieldType.int) [((0 : Nat), (9 : Nat), (12 : Nat), (19 : Nat))]) ∈ gw := gw_of (gw_t4 (List.mem_of_getElem? (i := 148) rfl)) rfl
theorem mw_4_155 : (Jvm.Cond.codeWith ({ cls := "FaceLatticeLaw", name := "covers", desc := "(LFaceLattice;IZ[J)I" } : Jvm.MethodName) method_23_code (5 : Nat) (Option.some Jvm.ClassFile.FieldType.int) [((0 : Nat), (10 : Nat), (13 : Nat), (29 : Nat))]) ∈ gw := gw_of (gw_t4 (List.mem_of_getElem? (i := 155) rfl)) rfl
theorem mw_4_162 : (Jvm.Cond.codeWith ({ cls := "FaceLatticeLaw", name := "cover", desc := "(LFaceLattice;IZI[J)I" } : Jvm.MethodName) method_24_code (6 : Nat) (Option.some Jvm.ClassFile.FieldType.int) [((0 : Nat), (12 : Nat), (15 : Nat), (29 : Nat))]) ∈ gw := gw_of (gw_t4 (List.mem_of_getElem? (i := 162) rfl)) rfl
theorem mw_4_173 : (Jvm.Cond.codeWith ({ cls := "FaceLatticeLaw", name := "join", desc := "(LFaceLattice;II[J)I" } : Jvm.MethodName) method_25_code (5 : Nat) (Option.some Jvm.ClassFile.FieldType.int) [((0 : Nat), (10 : Nat), (13 : Nat), (29 : Nat))]) ∈ gw := gw_of (gw_t4 (List.mem_of_getElem? (i := 173) rfl)) rfl
theorem mw_4_180 : (Jvm.Cond.codeWith ({ cls := "FaceLatticeLaw", name := "meet", desc := "(LFaceLattice;II[J)I" } : Jvm.MethodName) method_26_code (5 : Nat) (Option.some Jvm.ClassFile.FieldType.int) [((0 : Nat), (10 : Nat), (13 : Nat), (29 : Nat))]) ∈ gw := gw_of (gw_t4 (List.mem_of_getElem? (i := 180) rfl)) rfl
theorem mw_4_187 : (Jvm.Cond.codeWith ({ cls := "FaceLatticeLaw", name := "between", desc := "(LFaceLattice;II[J)I" } : Jvm.MethodName) method_27_code (5 : Nat) (Option.some Jvm.ClassFile.FieldType.int) [((0 : Nat), (10 : Nat), (13 : Nat), (29 : Nat))]) ∈ gw := gw_of (gw_t4 (List.mem_of_getElem? (i := 187) rfl)) rfl
theorem mw_4_195 : (Jvm.Cond.codeWith ({ cls := "FaceLatticeLaw", name := "chains", desc := "(LFaceLattice;II[J)I" } : Jvm.MethodName) method_28_code (5 : Nat) (Option.some Jvm.ClassFile.FieldType.int) [((0 : Nat), (10 : Nat), (13 : Nat), (29 : Nat))]) ∈ gw := gw_of (gw_t4 (List.mem_of_getElem? (i := 195) rfl)) rfl
theorem mw_4_202 : (Jvm.Cond.codeWith ({ cls := "FaceLatticeLaw", name := "mobius", desc := "(LFaceLattice;II[J)I" } : Jvm.MethodName) method_29_code (5 : Nat) (Option.some Jvm.ClassFile.FieldType.int) [((0 : Nat), (10 : Nat), (13 : Nat), (29 : Nat))]) ∈ gw := gw_of (gw_t4 (List.mem_of_getElem? (i := 202) rfl)) rfl
theorem mw_4_213 : (Jvm.Cond.codeWith ({ cls := "FaceLatticeLaw", name := "neighbours", desc := "(LFaceLattice;IZ[J)I" } : Jvm.MethodName) method_30_code (5 : Nat) (Option.some Jvm.ClassFile.FieldType.int) [((0 : Nat), (10 : Nat), (13 : Nat), (29 : Nat))]) ∈ gw := gw_of (gw_t4 (List.mem_of_getElem? (i := 213) rfl)) rfl
theorem mw_4_233 : (Jvm.Cond.codeWith ({ cls := "FaceLatticeLaw", name := "distance", desc := "(LFaceLattice;IIZ[J)I" } : Jvm.MethodName) method_31_code (6 : Nat) (Option.some Jvm.ClassFile.FieldType.int) [((0 : Nat), (12 : Nat), (15 : Nat), (29 : Nat))]) ∈ gw := gw_of (gw_t4 (List.mem_of_getElem? (i := 233) rfl)) rfl
theorem mw_5_8 : (Jvm.Cond.codeWith ({ cls := "FaceLatticeLaw", name := "step", desc := "(LFaceLattice;IIZ[J)I" } : Jvm.MethodName) method_32_code (6 : Nat) (Option.some Jvm.ClassFile.FieldType.int) [((0 : Nat), (12 : Nat), (15 : Nat), (29 : Nat)), ((0 : Nat), (12 : Nat), (19 : Nat), (113 : Nat))]) ∈ gw := gw_of (gw_t5 (List.mem_of_getElem? (i := 8) rfl)) rfl
theorem mw_5_36 : (Jvm.Cond.codeWith ({ cls := "FaceLatticeLaw", name := "diameter", desc := "(LFaceLattice;Z[J)I" } : Jvm.MethodName) method_33_code (4 : Nat) (Option.some Jvm.ClassFile.FieldType.int) [((0 : Nat), (9 : Nat), (12 : Nat), (113 : Nat))]) ∈ gw := gw_of (gw_t5 (List.mem_of_getElem? (i := 36) rfl)) rfl
theorem mw_5_48 : (Jvm.Cond.codeWith ({ cls := "FaceLatticeLaw", name := "orbit", desc := "(LFaceLattice;I[J)I" } : Jvm.MethodName) method_34_code (4 : Nat) (Option.some Jvm.ClassFile.FieldType.int) [((0 : Nat), (9 : Nat), (12 : Nat), (29 : Nat))]) ∈ gw := gw_of (gw_t5 (List.mem_of_getElem? (i := 48) rfl)) rfl
theorem mw_5_59 : (Jvm.Cond.codeWith ({ cls := "FaceLatticeLaw", name := "isLike", desc := "(LFaceLattice;[J)I" } : Jvm.MethodName) method_35_code (3 : Nat) (Option.some Jvm.ClassFile.FieldType.int) [((0 : Nat), (15 : Nat), (18 : Nat), (13 : Nat))]) ∈ gw := gw_of (gw_t5 (List.mem_of_getElem? (i := 59) rfl)) rfl
theorem mw_5_74 : (Jvm.Cond.codeWith ({ cls := "FaceLatticeLaw", name := "image", desc := "(LFaceLattice;I[J)I" } : Jvm.MethodName) method_36_code (4 : Nat) (Option.some Jvm.ClassFile.FieldType.int) [((0 : Nat), (9 : Nat), (12 : Nat), (29 : Nat)), ((0 : Nat), (9 : Nat), (15 : Nat), (13 : Nat)), ((0 : Nat), (9 : Nat), (18 : Nat), (113 : Nat))]) ∈ gw := gw_of (gw_t5 (List.mem_of_getElem? (i := 74) rfl)) rfl
def xNo : List (Nat × Nat) := [(0, 1), (0, 2), (3, 2), (3, 0)]
/-- which exceptions are not of which class -/
def XNo (U : State) : Prop := ∀ q ∈ xNo, va_Nc (exn q.1) (exn q.2) U
theorem XNo.moved {u U : State} (hvm : u.vm.Alike U.vm) (h : XNo u) : XNo U := fun q hq => va_Nc.moved hvm (h q hq)
def PcH (Z : GZ) (Y : YZ) (av : List Value) (sz : Nat) (ws : va_W) : Array Value → State → Prop := va_Pc av (fun U => U.heap.size = sz ∧ va_P (zD Z) vwCl ws U.heap ∧ va_K (zD Z) vwCl (zT Z) U ∧ va_D (fun _ => True) ws ∧ XT Y (va_A ws sz) U U.heap ∧ XNo U)
theorem PcH_blind {Z : GZ} {Y : YZ} {av : List Value} {sz : Nat} {ws : va_W} : FrameBlind (PcH Z Y av sz ws) := fun a U g mk q => by
  obtain ⟨q0, q1, qP, qK, qD, qX, qO⟩ := q
  exact ⟨q0, q1, qP, va_K.moved (u := U) (U := U.calling g mk a) (Vm.Alike.refl U.vm) qK, qD, XT.warm (s := U) (U := U.calling g mk a) (State.WarmedH.refl U) qX, XNo.moved (u := U) (U := U.calling g mk a) (Vm.Alike.refl U.vm) qO⟩
def QcH (Z : GZ) (A : Nat → Prop) (ws' : va_W) (r : Int32) : Array Value → State → Outcome → State → Prop := va_Qi (fun (r' : Int32) (_ : Unit) => r' = r) (fun _ t => BZ Z A ws' t) A
def XcH (A : Nat → Prop) : String → State → State → Prop := vx_X (fun (_ : Unit) => False) (fun _ _ _ => True) A
/-- a helper of the law: it catches, and answers an int -/
def LH (l : Launch) (Z : GZ) (Y : YZ) (y : MethodName) (bytes : ByteArray) (maxL : Nat) (hh : List (Nat × Nat × Nat × Nat)) (fr lo mc ms : Nat) (av : List Value) (ws : va_W) (r : Int32) (ws' : va_W) : Prop :=
  ∀ sz, vx_Met l y (Cond.codeWith y bytes maxL (some .int) hh :: gw) { frames := fr, cells := mc, slots := ms, locals := lo } (PcH Z Y av sz ws) (QcH Z (va_A ws sz) ws' r) (XcH (va_A ws sz)) mc ms (va_A ws sz)
def QLH (Z : GZ) (A : Nat → Prop) (below : List Frame) (args : Array Value) (s : State) (ws' : va_W) (r : Int32) (mc ms : Nat) : State → Prop := vx_MQ below (QcH Z A ws' r) (XcH A) args s mc ms A
abbrev Hx (l : Launch) (Y : YZ) (A : Nat → Prop) (s : State) (meth : Method) (c : Code) (hh : List (Nat × Nat × Nat × Nat)) : Prop := XT Y A s s.heap ∧ l.stackTraces = false ∧ c.exceptionTable.toList = tableOf hh ∧ meth.locks = false ∧ XNo s
theorem LH_of {l : Launch} {Z : GZ} {Y : YZ} {y : MethodName} {bytes : ByteArray} {maxL : Nat} {hh : List (Nat × Nat × Nat × Nat)} {fr lo mc ms : Nat} {av : List Value} {ws : va_W} {r : Int32} {ws' : va_W} (hst : l.stackTraces = false) (hy : plainName y.cls = true) (hav : (lg_sl av).length ≤ maxL)
    (body : ∀ {p : Program} {e : Env} {s : State} {m : MethodId} {args : Array Value} {below : List Frame} {meth : Method} {c : Code} (A : Nat → Prop) (R : Room), R = { frames := fr, cells := mc, slots := ms, locals := lo } → ∀ (Q : State → Prop), Q = QLH Z A below args s ws' r mc ms → Cx p s m args c bytes maxL y.cls Z A → Hx l Y A s meth c hh → meth.sig.returnType = some .int → Gw p l e R s m args below meth c maxL Z A Q 0 0 0 (lv_args 0 av) [] ws) :
    LH l Z Y y bytes maxL hh fr lo mc ms av ws r ws' := by
  intro sz
  refine vx_ofWH (cc := bytes) (maxL := maxL) (ret := (some .int)) (hh := hh) hy rfl ?_
  intro p e s m args below meth c s₁ B hml hv
  obtain ⟨rfl, hsz, hP, hK, hD0, hX, hN⟩ := hv
  have hts := atoms_spec (ws := Cond.codeWith y bytes maxL (some .int) hh :: gw) B.pre
  have hown : s.vm.findClass y.cls = some m.cls := findClass_of_methodNamed B.named
  have htab := vx_table (x := y) B (hts _ List.mem_cons_self)
  subst hsz
  have hD := hD0.self (sz := s.heap.size)
  have hl := lv_entry av (n := maxL) hav
  rw [lg_entry_eq]
  exact body (va_A ws s.heap.size) _ rfl _ rfl ⟨B.exec, B.bytes, hml, hown, fun w hw => hts w (List.mem_cons_of_mem _ hw), hK, fun q h => Or.inr h⟩ ⟨hX, hst, htab, B.notSynchronized, hN⟩ B.returns s.heap [] _ hP hD va_S.rf hl
/-- the answer of a helper whose handlers are for the exceptions ks, in their order -/
def hcd (ks : List Nat) (x : Nat ⊕ Int32) : Int32 := match x with
  | .inl k => nI (ks.findIdx (fun j => Nat.beq j k) + 1)
  | .inr _ => 0
/-- what stands in the law's cell behind the call -/
def outI (g : Nat → Int64) (x : Nat ⊕ Int32) : Nat → Int64 := match x with
  | .inl _ => g
  | .inr v => vp_updL g (ix 0) v.toInt64
def outB (g : Nat → Int64) (x : Nat ⊕ Int32) : Nat → Int64 := match x with
  | .inl _ => g
  | .inr v => vp_updL g (ix 0) (if v = 0 then 0 else 1)
section LL
variable {p : Program} {l : Launch} {e : Env} {R : Room} {s : State} {m : MethodId} {args : Array Value} {below : List Frame} {meth : Method} {c : Code} {cc : ByteArray} {nL : Nat} {own : String} {Z : GZ} {Y : YZ} {A : Nat → Prop} {Q : State → Prop} {cells slots pc : Nat} {lv lv' : List (Nat × Value)} {st rest : List Value} {ws ws' : va_W}
/-- where the exception k9 goes on: a row of the table, those ahead of it not for it -/
def Hrow (s : State) (c : Code) (pc : Nat) (own : String) (k9 : Nat) (x : ExceptionTableEntry) : Prop := ∃ (pre suf : List ExceptionTableEntry), c.exceptionTable.toList = pre ++ x :: suf ∧ (∀ z ∈ pre, z.catchType ≠ 0 ∧ ∃ nm : String, Cond.classLink own z.catchType nm ∈ gw ∧ va_Nc (exn k9) nm s) ∧ covers x pc = true ∧ x.catchType ≠ 0 ∧ Cond.classLink own x.catchType (exn k9) ∈ gw
theorem gx_tryI (C : Cx p s m args c cc nL own Z A) {hh : List (Nat × Nat × Nat × Nat)} (D : Hx l Y A s meth c hh) {y : MethodName} {bytes : ByteArray} {maxL fr lo mc ms n : Nat} {As : List Value} {wc wc' wr : va_W} {ret : FieldType} {o : Nat ⊕ Int32} {b : Nat} (hM : XI l Z Y y bytes maxL ret fr lo mc ms (.ref b :: As) wc o wc') (hrec : ∀ (H : Heap) (locs : List Loc), va_P (zD Z) vwCl ws H → va_S A s.heap H locs → ∃ cell : Cell, H[b]? = some cell ∧ cell.vm.isStatics = false ∧ s.vm.findClass y.cls = some cell.cls) (my : MYv y bytes maxL (some ret) n) (index : Nat) (hl0 : Cond.methodLink own index y ∈ gw) (hn : As.length = n) (is isR isJ : List Nat) (hC : is.map (fun i => ws[i]?) = wc.map some) (hR : isR.map (fun i => ws[i]?) = wr.map some) (hnd : va_nd isR = true) (hndC : va_nd is = true) (hdis : ∀ i ∈ isR, i ∉ is) (ws' : va_W) (hJ : isJ.map (fun i => (wr ++ wc')[i]?) = ws'.map some) (hndJ : va_nd isJ = true) (hroom : (rest.map fun v => v.category).sum ≤ 8) (hfr : fr + 1 ≤ R.frames) (hlo : 8 + (maxL + 11) + lo ≤ R.locals) (hfit : cells + mc ≤ R.cells ∧ slots + ms ≤ R.slots) (hst : st = As.reverse ++ .ref b :: rest) (d : decode cc pc = .ok (.invokevirtual index, 3))
    (kx : ∀ k9, o = .inl k9 → ∃ x : ExceptionTableEntry, Hrow s c pc own k9 x ∧ ∀ q9 : Nat, Gw p l e R s m args below meth c nL Z A Q (cells + mc) (slots + ms) (x.handlerPc) lv ([.ref q9]) (ws'))
    (kr : ∀ v, o = .inr v → Gw p l e R s m args below meth c nL Z A Q (cells + mc) (slots + ms) (pc + 3) lv (.int v :: rest) (ws')) : Gw p l e R s m args below meth c nL Z A Q cells slots (pc) lv (st) (ws) := by
  subst hst
  intro H locs ls hP hD hS hl
  have hPc := hP.sub (ws' := wc) is (fm_of hC)
  have hDc := hD.sub is hndC hC
  have hFc := va_free hD hS C.2.2.2.2.2.2 is hC
  have hX1 : XT Y (va_A wc H.size) s H := (D.1.kept hS.2.1).narrow hFc
  refine vx_calli (vx_runV (As := As) (rest := rest) ⟨C.1, C.2.1, C.2.2.1, C.2.2.2.1, C.2.2.2.2.1⟩ (hM H.size) ⟨cbG C.2.2.2.2.1 hfr hlo my.2.2.1 my.2.2.2.1 my.2.2.2.2.1 my.2.2.2.2.2 hl0, C.2.2.2.2.1 _ my.1, C.2.2.2.2.1 _ my.2.1⟩ ⟨PcX_blind, hrec H locs hP hS, fun U hU hW => ⟨rfl, by rw [hU], by rw [hU]; exact hPc, va_K.moved hW.alike C.2.2.2.2.2.1, hDc.weaken (fun _ _ _ _ => trivial), by rw [hU]; exact XT.warm hW hX1⟩⟩ rfl hn hl.1 rfl (lv_room hroom) d hfit) hS (fun q _ h => hFc q h) hFc (fun q _ h => hFc q h) (fun E ce q9 u t H1 locs1 ht hvm hpx hBX hz1 hk1 hS1 hce hcv hcl => ?_) (fun r' u t H1 locs1 ht hvm hw hB hz1 hk1 hS1 => ?_)
  · obtain ⟨⟨k9, hk9, hE⟩, hP1, hK1, hD1⟩ := hBX
    rw [ht] at hP1
    obtain ⟨hP2, hD2⟩ := va_join hP hD is isR hC hR hnd hdis hk1 hFc hP1 hD1
    obtain ⟨x, ⟨pre, suf, h1, h2, h3, h4, h5⟩, kk⟩ := kx k9 hk9
    subst hE
    exact vx_catch C.2.2.2.1 pre x suf h1 (fun z hz => Or.inr ⟨(h2 z hz).1, (h2 z hz).2.choose, C.2.2.2.2.1 _ (h2 z hz).2.choose_spec.1, (h2 z hz).2.choose_spec.2⟩) h3 h4 (C.2.2.2.2.1 _ h5) (va_Nw.use rfl (D.1.2.2.2.2.2.2.2.2.2.2.1 k9)) hce hcv hcl (kk q9 H1 locs1 ls (hP2.sub isJ (fm_of hJ)) (hD2.sub isJ hndJ hJ) hS1 hl)
  · obtain ⟨hP1, hK1, hD1⟩ := hB
    rw [ht] at hP1
    obtain ⟨hP2, hD2⟩ := va_join hP hD is isR hC hR hnd hdis hk1 hFc hP1 hD1
    exact kr r' hw H1 locs1 ls (hP2.sub isJ (fm_of hJ)) (hD2.sub isJ hndJ hJ) hS1 hl
theorem gx_lret (C : Cx p s m args c cc nL own Z A) {hh : List (Nat × Nat × Nat × Nat)} (D : Hx l Y A s meth c hh) {v r : Int32} {mc2 ms2 : Nat} (hv : v = r) (hr : meth.sig.returnType = some .int) (hc : cells ≤ mc2) (hs : slots ≤ ms2) (d : decode cc pc = .ok (.ireturn, 1)) (is : List Nat) (hI : is.map (fun i => ws[i]?) = ws'.map some) (hnd : va_nd is = true) : Gw p l e R s m args below meth c nL Z A (QLH Z A below args s ws' r mc2 ms2) cells slots pc lv [.int v] ws := by
  subst hv
  intro H locs ls hP hD hS hl
  exact W.widen hc hs (vx_ret (W.zret C.1 C.2.1 hr rfl (fun t ht hW => ⟨⟨v, (), rfl, rfl, by rw [ht]; exact hP.sub is (fm_of hI), va_K.moved hW.alike C.2.2.2.2.2.1, hD.sub is hnd hI⟩, hS.F ht⟩) hS.2.2 d D.2.2.2.1))
theorem gx_callL (C : Cx p s m args c cc nL own Z A) (hX : XT Y A s s.heap) (hN : XNo s) {y : MethodName} {bytes : ByteArray} {maxL fr lo mc ms n : Nat} {hh : List (Nat × Nat × Nat × Nat)} {As : List Value} {wc wc' wr : va_W} {r : Int32} (hM : LH l Z Y y bytes maxL hh fr lo mc ms As wc r wc') (hcd : Cond.codeWith y bytes maxL (some .int) hh ∈ gw) (hini : Cond.initialized y.cls ∈ gw) (hstt : Cond.static y ∈ gw) (hpl : y.cls ≠ "java/lang/invoke/MethodHandle" ∧ y.cls ≠ "java/lang/invoke/VarHandle") (hds : (parseMethodDescriptor y.desc).map (fun d => d.parameters.length) = some n) (index : Nat) (hl0 : Cond.methodLink own index y ∈ gw) (hn : As.length = n) (is isR isJ : List Nat) (hC : is.map (fun i => ws[i]?) = wc.map some) (hR : isR.map (fun i => ws[i]?) = wr.map some) (hnd : va_nd isR = true) (hndC : va_nd is = true) (hdis : ∀ i ∈ isR, i ∉ is) (ws' : va_W) (hJ : isJ.map (fun i => (wr ++ wc')[i]?) = ws'.map some) (hndJ : va_nd isJ = true) (hroom : (rest.map fun v => v.category).sum ≤ 8) (hfr : fr + 1 ≤ R.frames) (hlo : 8 + (maxL + 11) + lo ≤ R.locals) (hfit : cells + mc ≤ R.cells ∧ slots + ms ≤ R.slots) (hst : st = As.reverse ++ rest) (d : decode cc pc = .ok (.invokestatic index, 3)) (k : Gw p l e R s m args below meth c nL Z A Q (cells + mc) (slots + ms) (pc + 3) lv (.int r :: rest) (ws')) : Gw p l e R s m args below meth c nL Z A Q cells slots (pc) lv (st) (ws) := by
  subst hst
  intro H locs ls hP hD hS hl
  have hPc := hP.sub (ws' := wc) is (fm_of hC)
  have hDc := hD.sub is hndC hC
  have hFc := va_free hD hS C.2.2.2.2.2.2 is hC
  have hX1 : XT Y (va_A wc H.size) s H := (hX.kept hS.2.1).narrow hFc
  have h0 : ∀ w ∈ gw, ∀ (a' : Array Value) (U : State), s.WarmedH U.vm → w.before a' U = true := fun w hw a' U hW => word_at hW (good_of_word (List.mem_filter.mp hw).2) (C.2.2.2.2.1 w hw)
  refine vx_calli (vx_runSX (As := As) (rest := rest) ⟨C.1, C.2.1, C.2.2.1, C.2.2.2.1, C.2.2.2.2.1⟩ (hM H.size) ⟨⟨rfl, rfl, hfr, hlo, fun w hw => by
    rcases List.mem_cons.mp hw with rfl | hw
    · exact h0 _ hcd
    · exact h0 w hw, List.mem_cons_self⟩, C.2.2.2.2.1 _ hcd, C.2.2.2.2.1 _ hini, hpl, fun sig h => by rw [h] at hds; exact (Option.some.inj hds).symm, C.2.2.2.2.1 _ hl0, C.2.2.2.2.1 _ hstt⟩ ⟨PcH_blind, fun U hU hW => ⟨rfl, by rw [hU], by rw [hU]; exact hPc, va_K.moved hW.alike C.2.2.2.2.2.1, hDc.weaken (fun _ _ _ _ => trivial), by rw [hU]; exact XT.warm hW hX1, XNo.moved hW.alike hN⟩⟩ rfl hn hl.1 rfl (lv_room hroom) d hfit) hS (fun q _ h => hFc q h) hFc (fun q _ h => hFc q h) (fun E ce q9 u t H1 locs1 ht hvm hpx => hpx.elim) (fun r' u t H1 locs1 ht hvm hw hB hz1 hk1 hS1 => ?_)
  subst hw
  obtain ⟨hP1, hK1, hD1⟩ := hB
  rw [ht] at hP1
  obtain ⟨hP2, hD2⟩ := va_join hP hD is isR hC hR hnd hdis hk1 hFc hP1 hD1
  exact k H1 locs1 ls (hP2.sub isJ (fm_of hJ)) (hD2.sub isJ hndJ hJ) hS1 hl
end LL

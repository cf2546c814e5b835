def sTx : List String := ["points", "simplex", "cycle", "cube", "cross", "facet"]
def sIxC : List Nat := [73, 74, 76, 78, 80, 55]
def sIxM : List Nat := [136, 145, 150, 155, 160, 169]
def sLen : List Nat := [6, 7, 5, 4, 5, 5]
def sByt : List (List Int32) := [[112, 111, 105, 110, 116, 115], [115, 105, 109, 112, 108, 101, 120], [99, 121, 99, 108, 101], [99, 117, 98, 101], [99, 114, 111, 115, 115], [102, 97, 99, 101, 116]]
def sCh (w k : Nat) : Int32 := (sByt.getD w []).getD k 0
def tLeast (k : Nat) : Int32 := ([1, 2, 3, 1, 1] : List Int32).getD k 0
def tMost (k : Nat) : Int32 := ([8, 8, 8, 3, 3] : List Int32).getD k 0
def exn : Nat → String
  | 0 => "java/lang/IllegalStateException"
  | 1 => "java/lang/IllegalArgumentException"
  | 2 => "java/lang/IndexOutOfBoundsException"
  | _ => "java/util/NoSuchElementException"
def xNest : List (String × Nat × String) := [("FaceLattice", 9, "FaceLattice$SetupText"), ("FaceLattice$History", 24, "FaceLattice$Incidence"), ("FaceLattice", 25, "FaceLattice$Lattice"), ("FaceLattice", 32, "FaceLattice$Graph"), ("FaceLattice", 39, "FaceLattice$Matching"), ("FaceLattice", 46, "FaceLattice$Incidence")]
def xDecl : List String := ["java/lang/RuntimeException", "java/lang/Exception", "java/lang/Throwable"]
def xB (cls : String) : List Cond := Cond.castable cls cls :: xDecl.map (fun q => Cond.declares ⟨q, "<init>", "()V"⟩)
/-- where the strings, their bytes, and the reader's two tables lie -/
abbrev YZ : Type := (Nat → Nat) × (Nat → Nat) × Nat × Nat
/-- what lies outside the cells of the class and of the reference, and doesn't change -/
def XT (Y : YZ) (A : Nat → Prop) (U : State) (H : Heap) : Prop :=
  vk_S 6 sLen sByt Y.1 Y.2.1 A U H ∧
  (∀ i : Nat, i < 6 → vk_R "FaceLattice$SetupText" (sIxC.getD i 0) (sTx.getD i "") (Y.1 i) U ∧ vk_R "FaceLatticeModel" (sIxM.getD i 0) (sTx.getD i "") (Y.1 i) U) ∧
  va_Z "java/lang/String" "COMPACT_STRINGS" "Z" (.int 1) A U H ∧
  va_Zq "jdk/internal/util/Preconditions" "SIOOBE_FORMATTER" "Ljava/util/function/BiFunction;" A U H ∧
  va_Z "FaceLattice$SetupText" "LEAST" "[I" (.ref Y.2.2.1) A U H ∧ va_T .int Y.2.2.1 5 (fun j => .int (tLeast j)) A U H ∧
  va_Z "FaceLattice$SetupText" "MOST" "[I" (.ref Y.2.2.2) A U H ∧ va_T .int Y.2.2.2 5 (fun j => .int (tMost j)) A U H ∧
  vx_Zq Bundle.tN "UNASSIGNED_STACK" Bundle.steD A U H ∧ vx_Zq Bundle.tN "SUPPRESSED_SENTINEL" Bundle.listD A U H ∧
  (∀ k : Nat, va_Nw (.castable (exn k) (exn k)) U) ∧
  (∀ q ∈ xNest, va_Nw (.methodLinkNest q.1 q.2.1 ⟨q.2.2, "<init>", "()V"⟩ "FaceLattice") U) ∧
  (∀ q ∈ xDecl, va_Nw (.declares ⟨q, "<init>", "()V"⟩) U)
theorem XT.warm {Y : YZ} {A : Nat → Prop} {s U : State} {H : Heap} (hW : s.WarmedH U.vm) (h : XT Y A s H) : XT Y A U H := by
  obtain ⟨h1, h2, h3, h4, h5, h6, h7, h8, h9, h10, h11, h12, h13⟩ := h
  exact ⟨vk_S.moved hW.alike h1, fun i hi => ⟨(h2 i hi).1.warm hW, (h2 i hi).2.warm hW⟩, va_Z.moved hW.alike h3, va_Zq.moved hW.alike h4, va_Z.moved hW.alike h5, va_T.moved hW.alike h6, va_Z.moved hW.alike h7, va_T.moved hW.alike h8, vx_Zq.moved hW.alike h9, vx_Zq.moved hW.alike h10, fun k => va_Nw.warmC hW (h11 k), fun q hq => va_Nw.warmM hW (h12 q hq), fun q hq => va_Nw.warmD hW (h13 q hq)⟩
theorem XT.kept {Y : YZ} {A : Nat → Prop} {U : State} {H H1 : Heap} (h : XT Y A U H) (hq : ∀ a : Nat, a < H.size → ¬ A a → H1[a]? = H[a]?) : XT Y A U H1 := by
  obtain ⟨h1, h2, h3, h4, h5, h6, h7, h8, h9, h10, h11, h12, h13⟩ := h
  exact ⟨h1.kept hq, h2, h3.kept hq, h4.kept hq, h5.kept hq, h6.kept hq, h7.kept hq, h8.kept hq, h9.kept hq, h10.kept hq, h11, h12, h13⟩
theorem XT.narrow {Y : YZ} {A B : Nat → Prop} {U : State} {H : Heap} (h : XT Y A U H) (hAB : ∀ q, B q → A q) : XT Y B U H := by
  obtain ⟨h1, h2, h3, h4, h5, h6, h7, h8, h9, h10, h11, h12, h13⟩ := h
  exact ⟨h1.narrow hAB, h2, h3.narrow hAB, h4.narrow hAB, h5.narrow hAB, h6.narrow hAB, h7.narrow hAB, h8.narrow hAB, h9.narrow hAB, h10.narrow hAB, h11, h12, h13⟩
def PcX (Z : GZ) (Y : YZ) (av : List Value) (sz : Nat) (ws : va_W) : Array Value → State → Prop := va_Pc av (fun U => U.heap.size = sz ∧ va_P (zD Z) vwCl ws U.heap ∧ va_K (zD Z) vwCl (zT Z) U ∧ va_D (fun _ => True) ws ∧ XT Y (va_A ws sz) U U.heap)
theorem PcX_blind {Z : GZ} {Y : YZ} {av : List Value} {sz : Nat} {ws : va_W} : FrameBlind (PcX Z Y av sz ws) := fun a U g mk q => by
  obtain ⟨q0, q1, qP, qK, qD, qX⟩ := q
  exact ⟨q0, q1, qP, va_K.moved (u := U) (U := U.calling g mk a) (Vm.Alike.refl U.vm) qK, qD, XT.warm (s := U) (U := U.calling g mk a) (State.WarmedH.refl U) qX⟩
def QcI (Z : GZ) (A : Nat → Prop) (ws' : va_W) (o : Nat ⊕ Int32) : Array Value → State → Outcome → State → Prop := va_Qi (fun (r : Int32) (_ : Unit) => o = Sum.inr r) (fun _ t => BZ Z A ws' t) A
def QcV (Z : GZ) (A : Nat → Prop) (ws' : va_W) (o : Nat ⊕ Int32) : Array Value → State → Outcome → State → Prop := va_Qv (fun (_ : Unit) => o = Sum.inr 0) (fun _ t => BZ Z A ws' t) A
def XcX (Z : GZ) (A : Nat → Prop) (ws' : va_W) (o : Nat ⊕ Int32) : String → State → State → Prop := vx_X (fun (_ : Unit) => True) (fun E _ t => (∃ k, o = Sum.inl k ∧ E = exn k) ∧ BZ Z A ws' t) A
/-- a method that answers an int or throws: .inr r, or .inl k for the exception exn k -/
def XI (l : Launch) (Z : GZ) (Y : YZ) (y : MethodName) (bytes : ByteArray) (maxL : Nat) (ret : FieldType) (fr lo mc ms : Nat) (av : List Value) (ws : va_W) (o : Nat ⊕ Int32) (ws' : va_W) : Prop :=
  ∀ sz, vx_Met l y (Cond.code y bytes maxL (some ret) :: gw) { frames := fr, cells := mc, slots := ms, locals := lo } (PcX Z Y av sz ws) (QcI Z (va_A ws sz) ws' o) (XcX Z (va_A ws sz) ws' o) mc ms (va_A ws sz)
def XV (l : Launch) (Z : GZ) (Y : YZ) (y : MethodName) (bytes : ByteArray) (maxL : Nat) (fr lo mc ms : Nat) (av : List Value) (ws : va_W) (o : Nat ⊕ Int32) (ws' : va_W) : Prop :=
  ∀ sz, vx_Met l y (Cond.code y bytes maxL none :: gw) { frames := fr, cells := mc, slots := ms, locals := lo } (PcX Z Y av sz ws) (QcV Z (va_A ws sz) ws' o) (XcX Z (va_A ws sz) ws' o) mc ms (va_A ws sz)
def QXI (Z : GZ) (A : Nat → Prop) (below : List Frame) (args : Array Value) (s : State) (ws' : va_W) (o : Nat ⊕ Int32) (mc ms : Nat) : State → Prop := vx_MQ below (QcI Z A ws' o) (XcX Z A ws' o) args s mc ms A
def QXV (Z : GZ) (A : Nat → Prop) (below : List Frame) (args : Array Value) (s : State) (ws' : va_W) (o : Nat ⊕ Int32) (mc ms : Nat) : State → Prop := vx_MQ below (QcV Z A ws' o) (XcX Z A ws' o) args s mc ms A
/-- what stays the same in a method that uses what lies outside, or may throw -/
abbrev Dx (l : Launch) (Y : YZ) (A : Nat → Prop) (s : State) (meth : Method) (c : Code) : Prop := XT Y A s s.heap ∧ l.stackTraces = false ∧ (∀ x ∈ c.exceptionTable.toList, False) ∧ meth.locks = false
theorem XI_of {l : Launch} {Z : GZ} {Y : YZ} {y : MethodName} {bytes : ByteArray} {maxL : Nat} {ret : FieldType} {fr lo mc ms : Nat} {av : List Value} {ws : va_W} {o : Nat ⊕ Int32} {ws' : va_W} (hst : l.stackTraces = false) (hy : plainName y.cls = true) (hav : (lg_sl av).length ≤ maxL)
    (body : ∀ {p : Program} {e : Env} {s : State} {m : MethodId} {args : Array Value} {below : List Frame} {meth : Method} {c : Code} (A : Nat → Prop) (R : Room), R = { frames := fr, cells := mc, slots := ms, locals := lo } → ∀ (Q : State → Prop), Q = QXI Z A below args s ws' o mc ms → Cx p s m args c bytes maxL y.cls Z A → Dx l Y A s meth c → meth.sig.returnType = (some ret) → Gw p l e R s m args below meth c maxL Z A Q 0 0 0 (lv_args 0 av) [] ws) :
    XI l Z Y y bytes maxL ret fr lo mc ms av ws o ws' := by
  intro sz
  refine vx_ofW (cc := bytes) (maxL := maxL) (ret := (some ret)) hy rfl ?_
  intro p e s m args below meth c s₁ B hml hnx hv
  obtain ⟨rfl, hsz, hP, hK, hD0, hX⟩ := hv
  have hts := atoms_spec (ws := Cond.code y bytes maxL (some ret) :: gw) B.pre
  have hown : s.vm.findClass y.cls = some m.cls := findClass_of_methodNamed B.named
  subst hsz
  have hD := hD0.self (sz := s.heap.size)
  have hl := lv_entry av (n := maxL) hav
  rw [lg_entry_eq]
  exact body (va_A ws s.heap.size) _ rfl _ rfl ⟨B.exec, B.bytes, hml, hown, fun w hw => hts w (List.mem_cons_of_mem _ hw), hK, fun q h => Or.inr h⟩ ⟨hX, hst, hnx, B.notSynchronized⟩ B.returns s.heap [] _ hP hD va_S.rf hl
theorem XV_of {l : Launch} {Z : GZ} {Y : YZ} {y : MethodName} {bytes : ByteArray} {maxL : Nat} {fr lo mc ms : Nat} {av : List Value} {ws : va_W} {o : Nat ⊕ Int32} {ws' : va_W} (hst : l.stackTraces = false) (hy : plainName y.cls = true) (hav : (lg_sl av).length ≤ maxL)
    (body : ∀ {p : Program} {e : Env} {s : State} {m : MethodId} {args : Array Value} {below : List Frame} {meth : Method} {c : Code} (A : Nat → Prop) (R : Room), R = { frames := fr, cells := mc, slots := ms, locals := lo } → ∀ (Q : State → Prop), Q = QXV Z A below args s ws' o mc ms → Cx p s m args c bytes maxL y.cls Z A → Dx l Y A s meth c → meth.sig.returnType = none → Gw p l e R s m args below meth c maxL Z A Q 0 0 0 (lv_args 0 av) [] ws) :
    XV l Z Y y bytes maxL fr lo mc ms av ws o ws' := by
  intro sz
  refine vx_ofW (cc := bytes) (maxL := maxL) (ret := none) hy rfl ?_
  intro p e s m args below meth c s₁ B hml hnx hv
  obtain ⟨rfl, hsz, hP, hK, hD0, hX⟩ := hv
  have hts := atoms_spec (ws := Cond.code y bytes maxL none :: gw) B.pre
  have hown : s.vm.findClass y.cls = some m.cls := findClass_of_methodNamed B.named
  subst hsz
  have hD := hD0.self (sz := s.heap.size)
  have hl := lv_entry av (n := maxL) hav
  rw [lg_entry_eq]
  exact body (va_A ws s.heap.size) _ rfl _ rfl ⟨B.exec, B.bytes, hml, hown, fun w hw => hts w (List.mem_cons_of_mem _ hw), hK, fun q h => Or.inr h⟩ ⟨hX, hst, hnx, B.notSynchronized⟩ B.returns s.heap [] _ hP hD va_S.rf hl
theorem xB_at {Y : YZ} {A : Nat → Prop} {s : State} {H : Heap} {args : Array Value} {cls : String} {k9 : Nat} (hX : XT Y A s H) (hcls : cls = exn k9) : ∀ w ∈ xB cls, w.before args s = true := by
  obtain ⟨h1, h2, h3, h4, h5, h6, h7, h8, h9, h10, h11, h12, h13⟩ := hX
  intro w hw
  rcases List.mem_cons.mp hw with rfl | hw
  · rw [hcls]; exact va_Nw.use rfl (h11 k9)
  · obtain ⟨q, hq, rfl⟩ := List.mem_map.mp hw
    exact va_Nw.use rfl (h13 q hq)
def xb {α : Type} (r : Nat ⊕ Int32) (f : Nat → Option α) (g : Int32 → Option α) : Option α := match r with
  | .inl k => f k
  | .inr v => g v
section XL
variable {p : Program} {l : Launch} {e : Env} {R : Room} {s : State} {m : MethodId} {args : Array Value} {below : List Frame} {meth : Method} {c : Code} {cc : ByteArray} {nL : Nat} {own : String} {Z : GZ} {Y : YZ} {A : Nat → Prop} {Q : State → Prop} {cells slots pc : Nat} {lv lv' : List (Nat × Value)} {st rest : List Value} {ws ws' : va_W}
theorem gx_gets (C : Cx p s m args c cc nL own Z A) {Cn fn fd ref : String} {v : Value} (hZ : va_Z Cn fn fd v A s s.heap) (index : Nat) (hlink : Cond.fieldLink own index ref fn fd ∈ gw) (href : ref = Cn) (d : decode cc pc = .ok (.getstatic index, 3)) (k : Gw p l e R s m args below meth c nL Z A Q cells slots (pc + 3) (lv) (v :: st) (ws)) : Gw p l e R s m args below meth c nL Z A Q cells slots (pc) (lv) (st) (ws) := fun H locs ls hP hD hS hl => va_gets C.1 C.2.1 hZ hS C.2.2.2.1 (C.2.2.2.2.1 _ hlink) (fun _ z => by rw [href]; exact z) d (k H locs ls hP hD hS hl)
theorem gx_getf (C : Cx p s m args c cc nL own Z A) {Cn fn fd ref : String} {q : Nat} {v : Value} (hE : va_OF Cn fn fd v q A s s.heap) (index : Nat) (hlink : Cond.fieldLink own index ref fn fd ∈ gw) (href : ref = Cn) (d : decode cc pc = .ok (.getfield index, 3)) (k : Gw p l e R s m args below meth c nL Z A Q cells slots (pc + 3) (lv) (v :: st) (ws)) : Gw p l e R s m args below meth c nL Z A Q cells slots (pc) (lv) (.ref q :: st) (ws) := fun H locs ls hP hD hS hl => vk_getf C.1 C.2.1 hE hS C.2.2.2.1 (C.2.2.2.2.1 _ hlink) (fun _ z => by rw [href]; exact z) d (k H locs ls hP hD hS hl)
theorem gx_ti (C : Cx p s m args c cc nL own Z A) {t N : Nat} {f : Nat → Int32} (hT : va_T .int t N (fun j => .int (f j)) A s s.heap) {i : Int32} (hin : okI i N = true) (d : decode cc pc = .ok (.iaload, 1)) (k : Gw p l e R s m args below meth c nL Z A Q cells slots (pc + 1) (lv) (.int (f (ix i)) :: st) (ws)) : Gw p l e R s m args below meth c nL Z A Q cells slots (pc) (lv) (.int i :: .ref t :: st) (ws) := fun H locs ls hP hD hS hl => va_ti C.1 C.2.1 hT hS (okI_in hin) rfl d (k H locs ls hP hD hS hl)
theorem gx_tb (C : Cx p s m args c cc nL own Z A) {t N : Nat} {f : Nat → Int32} (hT : va_T .byte t N (fun j => .int (f j)) A s s.heap) {i : Int32} (hin : okI i N = true) (d : decode cc pc = .ok (.baload, 1)) (k : Gw p l e R s m args below meth c nL Z A Q cells slots (pc + 1) (lv) (.int (f (ix i)) :: st) (ws)) : Gw p l e R s m args below meth c nL Z A Q cells slots (pc) (lv) (.int i :: .ref t :: st) (ws) := fun H locs ls hP hD hS hl => va_tb C.1 C.2.1 hT hS (okI_in hin) rfl d (k H locs ls hP hD hS hl)
theorem gx_tlen (C : Cx p s m args c cc nL own Z A) {ty : FieldType} {t N : Nat} {f : Nat → Value} (hT : va_T ty t N f A s s.heap) (d : decode cc pc = .ok (.arraylength, 1)) (k : Gw p l e R s m args below meth c nL Z A Q cells slots (pc + 1) (lv) (.int (nI N) :: st) (ws)) : Gw p l e R s m args below meth c nL Z A Q cells slots (pc) (lv) (.ref t :: st) (ws) := fun H locs ls hP hD hS hl => va_tlen C.1 C.2.1 hT hS rfl d (k H locs ls hP hD hS hl)
theorem gx_ldcs (C : Cx p s m args c cc nL own Z A) {tx : String} {q : Nat} (index : Nat) (hZ : vk_R own index tx q s) (d : decode cc pc = .ok (.ldc index, 2)) (k : Gw p l e R s m args below meth c nL Z A Q cells slots (pc + 2) (lv) (.ref q :: st) (ws)) : Gw p l e R s m args below meth c nL Z A Q cells slots (pc) (lv) (st) (ws) := fun H locs ls hP hD hS hl => va_ldcS C.1 C.2.1 C.2.2.2.1 hZ d (k H locs ls hP hD hS hl)
theorem gx_i2c (C : Cx p s m args c cc nL own Z A) {x : Int32} (v : Int32) (d : decode cc pc = .ok (.i2c, 1)) (hv : (x.toUInt32 % 65536).toInt32 = v) (k : Gw p l e R s m args below meth c nL Z A Q cells slots (pc + 1) (lv) (.int v :: st) (ws)) : Gw p l e R s m args below meth c nL Z A Q cells slots (pc) (lv) (.int x :: st) (ws) := fun H locs ls hP hD hS hl => lv_i2c C.1 C.2.1 d hv (k H locs ls hP hD hS hl)
theorem gx_callVi (C : Cx p s m args c cc nL own Z A) (D : Dx l Y A s meth c) {y : MethodName} {bytes : ByteArray} {maxL fr lo mc ms n : Nat} {As : List Value} {wc wc' wr : va_W} {ret : FieldType} {r : Int32} {b : Nat} (hM : XI l Z Y y bytes maxL ret fr lo mc ms (.ref b :: As) wc (.inr r) wc') (hrec : ∀ (H : Heap) (locs : List Loc), va_P (zD Z) vwCl ws H → va_S A s.heap H locs → ∃ cell : Cell, H[b]? = some cell ∧ cell.vm.isStatics = false ∧ s.vm.findClass y.cls = some cell.cls) (my : MYv y bytes maxL (some ret) n) (index : Nat) (hl0 : Cond.methodLink own index y ∈ gw) (hn : As.length = n) (is isR isJ : List Nat) (hC : is.map (fun i => ws[i]?) = wc.map some) (hR : isR.map (fun i => ws[i]?) = wr.map some) (hnd : va_nd isR = true) (hndC : va_nd is = true) (hdis : ∀ i ∈ isR, i ∉ is) (ws' : va_W) (hJ : isJ.map (fun i => (wr ++ wc')[i]?) = ws'.map some) (hndJ : va_nd isJ = true) (hroom : (rest.map fun v => v.category).sum ≤ 8) (hfr : fr + 1 ≤ R.frames) (hlo : 8 + (maxL + 11) + lo ≤ R.locals) (hfit : cells + mc ≤ R.cells ∧ slots + ms ≤ R.slots) (hst : st = As.reverse ++ .ref b :: rest) (d : decode cc pc = .ok (.invokevirtual index, 3)) (k : Gw p l e R s m args below meth c nL Z A Q (cells + mc) (slots + ms) (pc + 3) (lv) (.int r :: rest) (ws')) : Gw p l e R s m args below meth c nL Z A Q cells slots (pc) (lv) (st) (ws) := by
  subst hst
  intro H locs ls hP hD hS hl
  have hPc := hP.sub (ws' := wc) is (fm_of hC)
  have hDc := hD.sub is hndC hC
  have hFc := va_free hD hS C.2.2.2.2.2.2 is hC
  have hX1 : XT Y (va_A wc H.size) s H := (D.1.kept hS.2.1).narrow hFc
  refine vx_calli (vx_runV (As := As) (rest := rest) ⟨C.1, C.2.1, C.2.2.1, C.2.2.2.1, C.2.2.2.2.1⟩ (hM H.size) ⟨cbG C.2.2.2.2.1 hfr hlo my.2.2.1 my.2.2.2.1 my.2.2.2.2.1 my.2.2.2.2.2 hl0, C.2.2.2.2.1 _ my.1, C.2.2.2.2.1 _ my.2.1⟩ ⟨PcX_blind, hrec H locs hP hS, fun U hU hW => ⟨rfl, by rw [hU], by rw [hU]; exact hPc, va_K.moved hW.alike C.2.2.2.2.2.1, hDc.weaken (fun _ _ _ _ => trivial), by rw [hU]; exact XT.warm hW hX1⟩⟩ rfl hn hl.1 rfl (lv_room hroom) d hfit) hS (fun q _ h => hFc q h) hFc (fun q _ h => hFc q h) (fun E ce q9 u t H1 locs1 ht hvm hpx hBX => ?_) (fun r' u t H1 locs1 ht hvm hw hB hz1 hk1 hS1 => ?_)
  · obtain ⟨⟨k9, hk9, -⟩, -⟩ := hBX
    cases hk9
  · obtain rfl := Sum.inr.inj hw
    obtain ⟨hP1, hK1, hD1⟩ := hB
    rw [ht] at hP1
    obtain ⟨hP2, hD2⟩ := va_join hP hD is isR hC hR hnd hdis hk1 hFc hP1 hD1
    exact k H1 locs1 ls (hP2.sub isJ (fm_of hJ)) (hD2.sub isJ hndJ hJ) hS1 hl
theorem gx_callVv (C : Cx p s m args c cc nL own Z A) (D : Dx l Y A s meth c) {y : MethodName} {bytes : ByteArray} {maxL fr lo mc ms n : Nat} {As : List Value} {wc wc' wr : va_W} {b : Nat} (hM : XV l Z Y y bytes maxL fr lo mc ms (.ref b :: As) wc (.inr 0) wc') (hrec : ∀ (H : Heap) (locs : List Loc), va_P (zD Z) vwCl ws H → va_S A s.heap H locs → ∃ cell : Cell, H[b]? = some cell ∧ cell.vm.isStatics = false ∧ s.vm.findClass y.cls = some cell.cls) (my : MYv y bytes maxL none n) (index : Nat) (hl0 : Cond.methodLink own index y ∈ gw) (hn : As.length = n) (is isR isJ : List Nat) (hC : is.map (fun i => ws[i]?) = wc.map some) (hR : isR.map (fun i => ws[i]?) = wr.map some) (hnd : va_nd isR = true) (hndC : va_nd is = true) (hdis : ∀ i ∈ isR, i ∉ is) (ws' : va_W) (hJ : isJ.map (fun i => (wr ++ wc')[i]?) = ws'.map some) (hndJ : va_nd isJ = true) (hroom : (rest.map fun v => v.category).sum ≤ 8) (hfr : fr + 1 ≤ R.frames) (hlo : 8 + (maxL + 11) + lo ≤ R.locals) (hfit : cells + mc ≤ R.cells ∧ slots + ms ≤ R.slots) (hst : st = As.reverse ++ .ref b :: rest) (d : decode cc pc = .ok (.invokevirtual index, 3)) (k : Gw p l e R s m args below meth c nL Z A Q (cells + mc) (slots + ms) (pc + 3) (lv) (rest) (ws')) : Gw p l e R s m args below meth c nL Z A Q cells slots (pc) (lv) (st) (ws) := by
  subst hst
  intro H locs ls hP hD hS hl
  have hPc := hP.sub (ws' := wc) is (fm_of hC)
  have hDc := hD.sub is hndC hC
  have hFc := va_free hD hS C.2.2.2.2.2.2 is hC
  have hX1 : XT Y (va_A wc H.size) s H := (D.1.kept hS.2.1).narrow hFc
  refine vx_callv (vx_runV (As := As) (rest := rest) ⟨C.1, C.2.1, C.2.2.1, C.2.2.2.1, C.2.2.2.2.1⟩ (hM H.size) ⟨cbG C.2.2.2.2.1 hfr hlo my.2.2.1 my.2.2.2.1 my.2.2.2.2.1 my.2.2.2.2.2 hl0, C.2.2.2.2.1 _ my.1, C.2.2.2.2.1 _ my.2.1⟩ ⟨PcX_blind, hrec H locs hP hS, fun U hU hW => ⟨rfl, by rw [hU], by rw [hU]; exact hPc, va_K.moved hW.alike C.2.2.2.2.2.1, hDc.weaken (fun _ _ _ _ => trivial), by rw [hU]; exact XT.warm hW hX1⟩⟩ rfl hn hl.1 rfl (lv_room hroom) d hfit) hS (fun q _ h => hFc q h) hFc (fun q _ h => hFc q h) (fun E ce q9 u t H1 locs1 ht hvm hpx hBX => ?_) (fun u t H1 locs1 ht hvm hw hB hz1 hk1 hS1 => ?_)
  · obtain ⟨⟨k9, hk9, -⟩, -⟩ := hBX
    cases hk9
  · obtain ⟨hP1, hK1, hD1⟩ := hB
    rw [ht] at hP1
    obtain ⟨hP2, hD2⟩ := va_join hP hD is isR hC hR hnd hdis hk1 hFc hP1 hD1
    exact k H1 locs1 ls (hP2.sub isJ (fm_of hJ)) (hD2.sub isJ hndJ hJ) hS1 hl
theorem gx_callSi (C : Cx p s m args c cc nL own Z A) (D : Dx l Y A s meth c) {y : MethodName} {bytes : ByteArray} {maxL fr lo mc ms n : Nat} {As : List Value} {wc wc' wr : va_W} {ret : FieldType} {r : Int32} (hM : XI l Z Y y bytes maxL ret fr lo mc ms As wc (.inr r) wc') (my : MYs y bytes maxL (some ret) n) (index : Nat) (hl0 : Cond.methodLink own index y ∈ gw) (hn : As.length = n) (is isR isJ : List Nat) (hC : is.map (fun i => ws[i]?) = wc.map some) (hR : isR.map (fun i => ws[i]?) = wr.map some) (hnd : va_nd isR = true) (hndC : va_nd is = true) (hdis : ∀ i ∈ isR, i ∉ is) (ws' : va_W) (hJ : isJ.map (fun i => (wr ++ wc')[i]?) = ws'.map some) (hndJ : va_nd isJ = true) (hroom : (rest.map fun v => v.category).sum ≤ 8) (hfr : fr + 1 ≤ R.frames) (hlo : 8 + (maxL + 11) + lo ≤ R.locals) (hfit : cells + mc ≤ R.cells ∧ slots + ms ≤ R.slots) (hst : st = As.reverse ++ rest) (d : decode cc pc = .ok (.invokestatic index, 3)) (k : Gw p l e R s m args below meth c nL Z A Q (cells + mc) (slots + ms) (pc + 3) (lv) (.int r :: rest) (ws')) : Gw p l e R s m args below meth c nL Z A Q cells slots (pc) (lv) (st) (ws) := by
  subst hst
  intro H locs ls hP hD hS hl
  have hPc := hP.sub (ws' := wc) is (fm_of hC)
  have hDc := hD.sub is hndC hC
  have hFc := va_free hD hS C.2.2.2.2.2.2 is hC
  have hX1 : XT Y (va_A wc H.size) s H := (D.1.kept hS.2.1).narrow hFc
  refine vx_calli (vx_runS (As := As) (rest := rest) ⟨C.1, C.2.1, C.2.2.1, C.2.2.2.1, C.2.2.2.2.1⟩ (hM H.size) ⟨cbG C.2.2.2.2.1 hfr hlo my.2.1 my.2.2.1 my.2.2.2.1 my.2.2.2.2 hl0, C.2.2.2.2.1 _ my.1⟩ ⟨PcX_blind, fun U hU hW => ⟨rfl, by rw [hU], by rw [hU]; exact hPc, va_K.moved hW.alike C.2.2.2.2.2.1, hDc.weaken (fun _ _ _ _ => trivial), by rw [hU]; exact XT.warm hW hX1⟩⟩ rfl hn hl.1 rfl (lv_room hroom) d hfit) hS (fun q _ h => hFc q h) hFc (fun q _ h => hFc q h) (fun E ce q9 u t H1 locs1 ht hvm hpx hBX => ?_) (fun r' u t H1 locs1 ht hvm hw hB hz1 hk1 hS1 => ?_)
  · obtain ⟨⟨k9, hk9, -⟩, -⟩ := hBX
    cases hk9
  · obtain rfl := Sum.inr.inj hw
    obtain ⟨hP1, hK1, hD1⟩ := hB
    rw [ht] at hP1
    obtain ⟨hP2, hD2⟩ := va_join hP hD is isR hC hR hnd hdis hk1 hFc hP1 hD1
    exact k H1 locs1 ls (hP2.sub isJ (fm_of hJ)) (hD2.sub isJ hndJ hJ) hS1 hl
theorem gx_callSv (C : Cx p s m args c cc nL own Z A) (D : Dx l Y A s meth c) {y : MethodName} {bytes : ByteArray} {maxL fr lo mc ms n : Nat} {As : List Value} {wc wc' wr : va_W} (hM : XV l Z Y y bytes maxL fr lo mc ms As wc (.inr 0) wc') (my : MYs y bytes maxL none n) (index : Nat) (hl0 : Cond.methodLink own index y ∈ gw) (hn : As.length = n) (is isR isJ : List Nat) (hC : is.map (fun i => ws[i]?) = wc.map some) (hR : isR.map (fun i => ws[i]?) = wr.map some) (hnd : va_nd isR = true) (hndC : va_nd is = true) (hdis : ∀ i ∈ isR, i ∉ is) (ws' : va_W) (hJ : isJ.map (fun i => (wr ++ wc')[i]?) = ws'.map some) (hndJ : va_nd isJ = true) (hroom : (rest.map fun v => v.category).sum ≤ 8) (hfr : fr + 1 ≤ R.frames) (hlo : 8 + (maxL + 11) + lo ≤ R.locals) (hfit : cells + mc ≤ R.cells ∧ slots + ms ≤ R.slots) (hst : st = As.reverse ++ rest) (d : decode cc pc = .ok (.invokestatic index, 3)) (k : Gw p l e R s m args below meth c nL Z A Q (cells + mc) (slots + ms) (pc + 3) (lv) (rest) (ws')) : Gw p l e R s m args below meth c nL Z A Q cells slots (pc) (lv) (st) (ws) := by
  subst hst
  intro H locs ls hP hD hS hl
  have hPc := hP.sub (ws' := wc) is (fm_of hC)
  have hDc := hD.sub is hndC hC
  have hFc := va_free hD hS C.2.2.2.2.2.2 is hC
  have hX1 : XT Y (va_A wc H.size) s H := (D.1.kept hS.2.1).narrow hFc
  refine vx_callv (vx_runS (As := As) (rest := rest) ⟨C.1, C.2.1, C.2.2.1, C.2.2.2.1, C.2.2.2.2.1⟩ (hM H.size) ⟨cbG C.2.2.2.2.1 hfr hlo my.2.1 my.2.2.1 my.2.2.2.1 my.2.2.2.2 hl0, C.2.2.2.2.1 _ my.1⟩ ⟨PcX_blind, fun U hU hW => ⟨rfl, by rw [hU], by rw [hU]; exact hPc, va_K.moved hW.alike C.2.2.2.2.2.1, hDc.weaken (fun _ _ _ _ => trivial), by rw [hU]; exact XT.warm hW hX1⟩⟩ rfl hn hl.1 rfl (lv_room hroom) d hfit) hS (fun q _ h => hFc q h) hFc (fun q _ h => hFc q h) (fun E ce q9 u t H1 locs1 ht hvm hpx hBX => ?_) (fun u t H1 locs1 ht hvm hw hB hz1 hk1 hS1 => ?_)
  · obtain ⟨⟨k9, hk9, -⟩, -⟩ := hBX
    cases hk9
  · obtain ⟨hP1, hK1, hD1⟩ := hB
    rw [ht] at hP1
    obtain ⟨hP2, hD2⟩ := va_join hP hD is isR hC hR hnd hdis hk1 hFc hP1 hD1
    exact k H1 locs1 ls (hP2.sub isJ (fm_of hJ)) (hD2.sub isJ hndJ hJ) hS1 hl
theorem g_recv (C : Cx p s m args c cc nL own Z A) {b ci : Nat} {Cn cn : String} {T : u_T} {N : Nat} {fs : List Value} (q0 : Nat) (hrecv : ws[q0]? = some (b, .inr (ci, fs))) (hci : vwCl[ci]? = some (Cn, T, N)) (hcls : Cn = cn) : ∀ (H : Heap) (locs : List Loc), va_P (zD Z) vwCl ws H → va_S A s.heap H locs → ∃ cell : Cell, H[b]? = some cell ∧ cell.vm.isStatics = false ∧ s.vm.findClass cn = some cell.cls := fun H locs hP _ => by rw [← hcls]; exact va_recv C.2.2.2.2.2.1 hP hci hrecv
theorem g_recvS (D : Dx l Y A s meth c) {w : Nat} (hw : w < 6) : ∀ (H : Heap) (locs : List Loc), va_P (zD Z) vwCl ws H → va_S A s.heap H locs → ∃ cell : Cell, H[Y.1 w]? = some cell ∧ cell.vm.isStatics = false ∧ s.vm.findClass "java/lang/String" = some cell.cls := fun H locs _ hS => vk_recv D.1.1 hw hS
theorem gx_thrI (C : Cx p s m args c cc nL own Z A) (D : Dx l Y A s meth c) {y : MethodName} {bytes : ByteArray} {maxL fr lo mc ms n : Nat} {As : List Value} {wc wc' wr : va_W} {k9 : Nat} {o : Nat ⊕ Int32} {mc2 ms2 : Nat} {b : Nat} (ho : o = .inl k9) (hM : XV l Z Y y bytes maxL fr lo mc ms (.ref b :: As) wc (.inl k9) wc') (hrec : ∀ (H : Heap) (locs : List Loc), va_P (zD Z) vwCl ws H → va_S A s.heap H locs → ∃ cell : Cell, H[b]? = some cell ∧ cell.vm.isStatics = false ∧ s.vm.findClass y.cls = some cell.cls) (my : MYv y bytes maxL none n) (index : Nat) (hl0 : Cond.methodLink own index y ∈ gw) (hn : As.length = n) (is isR isJ : List Nat) (hC : is.map (fun i => ws[i]?) = wc.map some) (hR : isR.map (fun i => ws[i]?) = wr.map some) (hnd : va_nd isR = true) (hndC : va_nd is = true) (hdis : ∀ i ∈ isR, i ∉ is) (ws' : va_W) (hJ : isJ.map (fun i => (wr ++ wc')[i]?) = ws'.map some) (hndJ : va_nd isJ = true) (hroom : (rest.map fun v => v.category).sum ≤ 8) (hfr : fr + 1 ≤ R.frames) (hlo : 8 + (maxL + 11) + lo ≤ R.locals) (hfit : cells + mc ≤ R.cells ∧ slots + ms ≤ R.slots) (hst : st = As.reverse ++ .ref b :: rest) (hc2 : cells + mc ≤ mc2) (hs2 : slots + ms ≤ ms2) (d : decode cc pc = .ok (.invokevirtual index, 3)) : Gw p l e R s m args below meth c nL Z A (QXI Z A below args s ws' o mc2 ms2) cells slots (pc) (lv) (st) (ws) := by
  subst hst
  subst ho
  intro H locs ls hP hD hS hl
  have hPc := hP.sub (ws' := wc) is (fm_of hC)
  have hDc := hD.sub is hndC hC
  have hFc := va_free hD hS C.2.2.2.2.2.2 is hC
  have hX1 : XT Y (va_A wc H.size) s H := (D.1.kept hS.2.1).narrow hFc
  refine vx_callv (vx_runV (As := As) (rest := rest) ⟨C.1, C.2.1, C.2.2.1, C.2.2.2.1, C.2.2.2.2.1⟩ (hM H.size) ⟨cbG C.2.2.2.2.1 hfr hlo my.2.2.1 my.2.2.2.1 my.2.2.2.2.1 my.2.2.2.2.2 hl0, C.2.2.2.2.1 _ my.1, C.2.2.2.2.1 _ my.2.1⟩ ⟨PcX_blind, hrec H locs hP hS, fun U hU hW => ⟨rfl, by rw [hU], by rw [hU]; exact hPc, va_K.moved hW.alike C.2.2.2.2.2.1, hDc.weaken (fun _ _ _ _ => trivial), by rw [hU]; exact XT.warm hW hX1⟩⟩ rfl hn hl.1 rfl (lv_room hroom) d hfit) hS (fun q _ h => hFc q h) hFc (fun q _ h => hFc q h) (fun E ce q9 u t H1 locs1 ht hvm hpx hBX hz1 hk1 hS1 hce hcv hcl => ?_) (fun u t H1 locs1 ht hvm hw => ?_)
  · obtain ⟨⟨k8, hk8, hE⟩, hP1, hK1, hD1⟩ := hBX
    rw [ht] at hP1
    obtain ⟨hP2, hD2⟩ := va_join hP hD is isR hC hR hnd hdis hk1 hFc hP1 hD1
    exact vx_out (fun x hx => (D.2.2.1 x hx).elim) D.2.2.2 hce hcv hcl (fun t2 ht2 hv2 => ⟨(), trivial, ⟨⟨k8, hk8, hE⟩, by rw [ht2]; exact hP2.sub isJ (fm_of hJ), va_K.moved hv2 C.2.2.2.2.2.1, hD2.sub isJ hndJ hJ⟩, hS1.F ht2⟩) hS1.2.2 hc2 hs2
  · cases hw
theorem gx_thrV (C : Cx p s m args c cc nL own Z A) (D : Dx l Y A s meth c) {y : MethodName} {bytes : ByteArray} {maxL fr lo mc ms n : Nat} {As : List Value} {wc wc' wr : va_W} {k9 : Nat} {o : Nat ⊕ Int32} {mc2 ms2 : Nat} {b : Nat} (ho : o = .inl k9) (hM : XV l Z Y y bytes maxL fr lo mc ms (.ref b :: As) wc (.inl k9) wc') (hrec : ∀ (H : Heap) (locs : List Loc), va_P (zD Z) vwCl ws H → va_S A s.heap H locs → ∃ cell : Cell, H[b]? = some cell ∧ cell.vm.isStatics = false ∧ s.vm.findClass y.cls = some cell.cls) (my : MYv y bytes maxL none n) (index : Nat) (hl0 : Cond.methodLink own index y ∈ gw) (hn : As.length = n) (is isR isJ : List Nat) (hC : is.map (fun i => ws[i]?) = wc.map some) (hR : isR.map (fun i => ws[i]?) = wr.map some) (hnd : va_nd isR = true) (hndC : va_nd is = true) (hdis : ∀ i ∈ isR, i ∉ is) (ws' : va_W) (hJ : isJ.map (fun i => (wr ++ wc')[i]?) = ws'.map some) (hndJ : va_nd isJ = true) (hroom : (rest.map fun v => v.category).sum ≤ 8) (hfr : fr + 1 ≤ R.frames) (hlo : 8 + (maxL + 11) + lo ≤ R.locals) (hfit : cells + mc ≤ R.cells ∧ slots + ms ≤ R.slots) (hst : st = As.reverse ++ .ref b :: rest) (hc2 : cells + mc ≤ mc2) (hs2 : slots + ms ≤ ms2) (d : decode cc pc = .ok (.invokevirtual index, 3)) : Gw p l e R s m args below meth c nL Z A (QXV Z A below args s ws' o mc2 ms2) cells slots (pc) (lv) (st) (ws) := by
  subst hst
  subst ho
  intro H locs ls hP hD hS hl
  have hPc := hP.sub (ws' := wc) is (fm_of hC)
  have hDc := hD.sub is hndC hC
  have hFc := va_free hD hS C.2.2.2.2.2.2 is hC
  have hX1 : XT Y (va_A wc H.size) s H := (D.1.kept hS.2.1).narrow hFc
  refine vx_callv (vx_runV (As := As) (rest := rest) ⟨C.1, C.2.1, C.2.2.1, C.2.2.2.1, C.2.2.2.2.1⟩ (hM H.size) ⟨cbG C.2.2.2.2.1 hfr hlo my.2.2.1 my.2.2.2.1 my.2.2.2.2.1 my.2.2.2.2.2 hl0, C.2.2.2.2.1 _ my.1, C.2.2.2.2.1 _ my.2.1⟩ ⟨PcX_blind, hrec H locs hP hS, fun U hU hW => ⟨rfl, by rw [hU], by rw [hU]; exact hPc, va_K.moved hW.alike C.2.2.2.2.2.1, hDc.weaken (fun _ _ _ _ => trivial), by rw [hU]; exact XT.warm hW hX1⟩⟩ rfl hn hl.1 rfl (lv_room hroom) d hfit) hS (fun q _ h => hFc q h) hFc (fun q _ h => hFc q h) (fun E ce q9 u t H1 locs1 ht hvm hpx hBX hz1 hk1 hS1 hce hcv hcl => ?_) (fun u t H1 locs1 ht hvm hw => ?_)
  · obtain ⟨⟨k8, hk8, hE⟩, hP1, hK1, hD1⟩ := hBX
    rw [ht] at hP1
    obtain ⟨hP2, hD2⟩ := va_join hP hD is isR hC hR hnd hdis hk1 hFc hP1 hD1
    exact vx_out (fun x hx => (D.2.2.1 x hx).elim) D.2.2.2 hce hcv hcl (fun t2 ht2 hv2 => ⟨(), trivial, ⟨⟨k8, hk8, hE⟩, by rw [ht2]; exact hP2.sub isJ (fm_of hJ), va_K.moved hv2 C.2.2.2.2.2.1, hD2.sub isJ hndJ hJ⟩, hS1.F ht2⟩) hS1.2.2 hc2 hs2
  · cases hw
def xNames : List String := ["java/lang/RuntimeException", "java/lang/Exception"]
theorem xNames_fit : ∀ n ∈ xNames, Bundle.fit n = true := by decide +kernel
theorem xat0 : ∀ w ∈ (vx_at0 RX6 75 "java/lang/IllegalStateException" xNames).filter goodWord, w ∈ gw := by decide +kernel
theorem xng0 : ∀ w ∈ (vx_at0 RX6 75 "java/lang/IllegalStateException" xNames).filter (fun w => !goodWord w), w ∈ xB "java/lang/IllegalStateException" := by decide +kernel
theorem xgd0 : ∀ w ∈ Cond.classLink RX6 73 "java/lang/IllegalStateException" :: Cond.initialized "java/lang/IllegalStateException" :: vx_at0 RX6 75 "java/lang/IllegalStateException" xNames, vx_ot w = true := by decide +kernel
theorem xat1 : ∀ w ∈ (vx_at0 RX6 82 "java/lang/IllegalArgumentException" xNames).filter goodWord, w ∈ gw := by decide +kernel
theorem xng1 : ∀ w ∈ (vx_at0 RX6 82 "java/lang/IllegalArgumentException" xNames).filter (fun w => !goodWord w), w ∈ xB "java/lang/IllegalArgumentException" := by decide +kernel
theorem xgd1 : ∀ w ∈ Cond.classLink RX6 80 "java/lang/IllegalArgumentException" :: Cond.initialized "java/lang/IllegalArgumentException" :: vx_at0 RX6 82 "java/lang/IllegalArgumentException" xNames, vx_ot w = true := by decide +kernel
theorem xat2 : ∀ w ∈ (vx_at0 RX6 203 "java/lang/IndexOutOfBoundsException" xNames).filter goodWord, w ∈ gw := by decide +kernel
theorem xng2 : ∀ w ∈ (vx_at0 RX6 203 "java/lang/IndexOutOfBoundsException" xNames).filter (fun w => !goodWord w), w ∈ xB "java/lang/IndexOutOfBoundsException" := by decide +kernel
theorem xgd2 : ∀ w ∈ Cond.classLink RX6 201 "java/lang/IndexOutOfBoundsException" :: Cond.initialized "java/lang/IndexOutOfBoundsException" :: vx_at0 RX6 203 "java/lang/IndexOutOfBoundsException" xNames, vx_ot w = true := by decide +kernel
theorem xat3 : ∀ w ∈ (vx_at0 RX6 244 "java/util/NoSuchElementException" xNames).filter goodWord, w ∈ gw := by decide +kernel
theorem xng3 : ∀ w ∈ (vx_at0 RX6 244 "java/util/NoSuchElementException" xNames).filter (fun w => !goodWord w), w ∈ xB "java/util/NoSuchElementException" := by decide +kernel
theorem xgd3 : ∀ w ∈ Cond.classLink RX6 242 "java/util/NoSuchElementException" :: Cond.initialized "java/util/NoSuchElementException" :: vx_at0 RX6 244 "java/util/NoSuchElementException" xNames, vx_ot w = true := by decide +kernel
theorem gx_throwI (C : Cx p s m args c cc nL own Z A) (D : Dx l Y A s meth c) {ik ic k9 mc2 ms2 : Nat} {o : Nat ⊕ Int32} {cls : String} (ho : o = .inl k9) (hcls : cls = exn k9) (hfit : Bundle.fit cls = true) (hk : Cond.classLink own ik cls ∈ gw) (hini : Cond.initialized cls ∈ gw) (hat : ∀ w ∈ (vx_at0 own ic cls xNames).filter goodWord, w ∈ gw) (hng : ∀ w ∈ (vx_at0 own ic cls xNames).filter (fun w => !goodWord w), w ∈ xB cls) (hgd : ∀ w ∈ Cond.classLink own ik cls :: Cond.initialized cls :: vx_at0 own ic cls xNames, vx_ot w = true)
    (d0 : decode cc pc = .ok (.new ik, 3)) (d3 : decode cc (pc + 3) = .ok (.dup, 1)) (d4 : decode cc (pc + 4) = .ok (.invokespecial ic, 3)) (d7 : decode cc (pc + 7) = .ok (.athrow, 1))
    (hfr : 5 < R.frames) (hlo : (st.map fun v => v.category).sum + 81 ≤ R.locals) (hrc : cells + 1 ≤ R.cells) (hrs : slots + 6 ≤ R.slots) (hc : cells + 1 ≤ mc2) (hs : slots + 6 ≤ ms2) (is : List Nat) (hI : is.map (fun i => ws[i]?) = ws'.map some) (hn : va_nd is = true) :
    Gw p l e R s m args below meth c nL Z A (QXI Z A below args s ws' o mc2 ms2) cells slots pc lv st ws := by
  subst ho
  intro H locs ls hP hD hS hl
  refine vx_throw0 (names := xNames) C.1 C.2.1 D.2.1 C.2.2.2.1 hfit xNames_fit (C.2.2.2.2.1 _ hk) (C.2.2.2.2.1 _ hini) (vx_hat (fun w hw => C.2.2.2.2.1 _ (hat w hw)) (B := xB cls) hng (xB_at D.1 hcls)) hgd D.1.2.2.2.2.2.2.2.2.1 D.1.2.2.2.2.2.2.2.2.2.1 hS (by rw [C.2.2.1]; exact hl.1) d0 d3 d4 d7 (fun x hx => (D.2.2.1 x hx).elim) hfr hlo hrc hrs D.2.2.2 ?_ hS.2.2 hc hs
  intro t hv hz hq
  refine ⟨(), trivial, ⟨⟨k9, rfl, hcls⟩, (hP.sub is (fm_of hI)).kept (fun k x hx => hq x.1 (((hP.sub is (fm_of hI)) k x hx).lt)), va_K.moved hv C.2.2.2.2.2.1, hD.sub is hn hI⟩, Nat.le_trans hS.1 hz, fun q h1 h2 => ?_⟩
  exact (hq q (Nat.lt_of_lt_of_le h1 hS.1)).trans (hS.2.1 q h1 h2)
theorem gx_throwV (C : Cx p s m args c cc nL own Z A) (D : Dx l Y A s meth c) {ik ic k9 mc2 ms2 : Nat} {o : Nat ⊕ Int32} {cls : String} (ho : o = .inl k9) (hcls : cls = exn k9) (hfit : Bundle.fit cls = true) (hk : Cond.classLink own ik cls ∈ gw) (hini : Cond.initialized cls ∈ gw) (hat : ∀ w ∈ (vx_at0 own ic cls xNames).filter goodWord, w ∈ gw) (hng : ∀ w ∈ (vx_at0 own ic cls xNames).filter (fun w => !goodWord w), w ∈ xB cls) (hgd : ∀ w ∈ Cond.classLink own ik cls :: Cond.initialized cls :: vx_at0 own ic cls xNames, vx_ot w = true)
    (d0 : decode cc pc = .ok (.new ik, 3)) (d3 : decode cc (pc + 3) = .ok (.dup, 1)) (d4 : decode cc (pc + 4) = .ok (.invokespecial ic, 3)) (d7 : decode cc (pc + 7) = .ok (.athrow, 1))
    (hfr : 5 < R.frames) (hlo : (st.map fun v => v.category).sum + 81 ≤ R.locals) (hrc : cells + 1 ≤ R.cells) (hrs : slots + 6 ≤ R.slots) (hc : cells + 1 ≤ mc2) (hs : slots + 6 ≤ ms2) (is : List Nat) (hI : is.map (fun i => ws[i]?) = ws'.map some) (hn : va_nd is = true) :
    Gw p l e R s m args below meth c nL Z A (QXV Z A below args s ws' o mc2 ms2) cells slots pc lv st ws := by
  subst ho
  intro H locs ls hP hD hS hl
  refine vx_throw0 (names := xNames) C.1 C.2.1 D.2.1 C.2.2.2.1 hfit xNames_fit (C.2.2.2.2.1 _ hk) (C.2.2.2.2.1 _ hini) (vx_hat (fun w hw => C.2.2.2.2.1 _ (hat w hw)) (B := xB cls) hng (xB_at D.1 hcls)) hgd D.1.2.2.2.2.2.2.2.2.1 D.1.2.2.2.2.2.2.2.2.2.1 hS (by rw [C.2.2.1]; exact hl.1) d0 d3 d4 d7 (fun x hx => (D.2.2.1 x hx).elim) hfr hlo hrc hrs D.2.2.2 ?_ hS.2.2 hc hs
  intro t hv hz hq
  refine ⟨(), trivial, ⟨⟨k9, rfl, hcls⟩, (hP.sub is (fm_of hI)).kept (fun k x hx => hq x.1 (((hP.sub is (fm_of hI)) k x hx).lt)), va_K.moved hv C.2.2.2.2.2.1, hD.sub is hn hI⟩, Nat.le_trans hS.1 hz, fun q h1 h2 => ?_⟩
  exact (hq q (Nat.lt_of_lt_of_le h1 hS.1)).trans (hS.2.1 q h1 h2)
theorem gx_iret (C : Cx p s m args c cc nL own Z A) (D : Dx l Y A s meth c) {ty : FieldType} {v : Int32} {o : Nat ⊕ Int32} {mc2 ms2 : Nat} (ho : o = .inr v) (hn : narrow ty (.int v) = .int v) (hr : meth.sig.returnType = some ty) (hc : cells ≤ mc2) (hs : slots ≤ ms2) (d : decode cc pc = .ok (.ireturn, 1)) (is : List Nat) (hI : is.map (fun i => ws[i]?) = ws'.map some) (hnd : va_nd is = true) : Gw p l e R s m args below meth c nL Z A (QXI Z A below args s ws' o mc2 ms2) cells slots pc lv [.int v] ws := by
  subst ho
  intro H locs ls hP hD hS hl
  exact W.widen hc hs (vx_ret (W.zret C.1 C.2.1 hr hn (fun t ht hW => ⟨⟨v, (), rfl, rfl, by rw [ht]; exact hP.sub is (fm_of hI), va_K.moved hW.alike C.2.2.2.2.2.1, hD.sub is hnd hI⟩, hS.F ht⟩) hS.2.2 d D.2.2.2))
theorem gx_vret (C : Cx p s m args c cc nL own Z A) (D : Dx l Y A s meth c) {o : Nat ⊕ Int32} {mc2 ms2 : Nat} (ho : o = .inr 0) (hr : meth.sig.returnType = none) (hc : cells ≤ mc2) (hs : slots ≤ ms2) (d : decode cc pc = .ok (.return_, 1)) (is : List Nat) (hI : is.map (fun i => ws[i]?) = ws'.map some) (hnd : va_nd is = true) : Gw p l e R s m args below meth c nL Z A (QXV Z A below args s ws' o mc2 ms2) cells slots pc lv [] ws := by
  intro H locs ls hP hD hS hl
  exact W.widen hc hs (vx_ret (W.vret C.1 C.2.1 hr (fun t ht hW => ⟨⟨(), rfl, ho, by rw [ht]; exact hP.sub is (fm_of hI), va_K.moved hW.alike C.2.2.2.2.2.1, hD.sub is hnd hI⟩, hS.F ht⟩) hS.2.2 d D.2.2.2))
theorem nar01 {v : Int32} (h : v = 0 ∨ v = 1) : narrow .boolean (.int v) = .int v := by rcases h with h | h <;> (rw [h]; rfl)
theorem xb_of {α : Type} {r : Nat ⊕ Int32} {f : Nat → Option α} {g : Int32 → Option α} {x : α} (h : xb r f g = some x) : (∃ k, r = .inl k ∧ f k = some x) ∨ (∃ v, r = .inr v ∧ g v = some x) := by
  cases r with
  | inl k => exact Or.inl ⟨k, rfl, h⟩
  | inr v => exact Or.inr ⟨v, rfl, h⟩
end XL
def okW (w : Nat) : Bool := decide (w < 6)
theorem okW_lt {w : Nat} (h : okW w = true) : w < 6 := by
  unfold okW at h
  rw [decide_eq_true_eq] at h
  exact h

/-- a constructor's start: what lies outside, and the class of the history's ring -/
def PcN (Z : GZ) (Y : YZ) (av : List Value) (sz : Nat) (ws : va_W) : Array Value → State → Prop := va_Pc av (fun U => U.heap.size = sz ∧ va_P (zD Z) vwCl ws U.heap ∧ va_K (zD Z) vwCl (zT Z) U ∧ va_D (fun _ => True) ws ∧ XT Y (va_A ws sz) U U.heap ∧ va_AO RX2 U)
theorem PcN_blind {Z : GZ} {Y : YZ} {av : List Value} {sz : Nat} {ws : va_W} : FrameBlind (PcN Z Y av sz ws) := fun a U g mk q => by
  obtain ⟨q0, q1, qP, qK, qD, qX, qO⟩ := q
  exact ⟨q0, q1, qP, va_K.moved (u := U) (U := U.calling g mk a) (Vm.Alike.refl U.vm) qK, qD, XT.warm (s := U) (U := U.calling g mk a) (State.WarmedH.refl U) qX, va_AO.moved (u := U) (U := U.calling g mk a) (Vm.Alike.refl U.vm) qO⟩
/-- a constructor: it leaves cells of which post says what they are -/
def XN (l : Launch) (Z : GZ) (Y : YZ) (y : MethodName) (bytes : ByteArray) (maxL fr lo mc ms : Nat) (av : List Value) (ws : va_W) (post : va_W → Prop) : Prop :=
  ∀ sz, Met l y (Cond.code y bytes maxL none :: gw) { frames := fr, cells := mc, slots := ms, locals := lo } (PcN Z Y av sz ws) (va_Qv post (fun w t => BZ Z (va_A ws sz) w t) (va_A ws sz)) mc ms (va_A ws sz)
def QN (Z : GZ) (A : Nat → Prop) (below : List Frame) (args : Array Value) (s : State) (post : va_W → Prop) (mc ms : Nat) : State → Prop := MQ below (va_Qv post (fun w t => BZ Z A w t) A) args s mc ms A
abbrev Nx (Y : YZ) (A : Nat → Prop) (s : State) (meth : Method) : Prop := XT Y A s s.heap ∧ va_AO RX2 s ∧ meth.name = "<init>" ∧ meth.locks = false
theorem XN_of {l : Launch} {Z : GZ} {Y : YZ} {y : MethodName} {bytes : ByteArray} {maxL fr lo mc ms : Nat} {av : List Value} {ws : va_W} {post : va_W → Prop} (hy : plainName y.cls = true) (hyn : y.name = "<init>") (hav : (lg_sl av).length ≤ maxL)
    (body : ∀ {p : Program} {e : Env} {s : State} {m : MethodId} {args : Array Value} {below : List Frame} {meth : Method} {c : Code} (A : Nat → Prop) (R : Room), R = { frames := fr, cells := mc, slots := ms, locals := lo } → ∀ (Q : State → Prop), Q = QN Z A below args s post mc ms → Cx p s m args c bytes maxL y.cls Z A → Nx Y A s meth → meth.sig.returnType = none → Gw p l e R s m args below meth c maxL Z A Q 0 0 0 (lv_args 0 av) [] ws) :
    XN l Z Y y bytes maxL fr lo mc ms av ws post := by
  intro sz
  refine Met.ofW (cc := bytes) (maxL := maxL) (ret := none) hy rfl ?_
  intro p e s m args below meth c s₁ B hml hv
  obtain ⟨rfl, hsz, hP, hK, hD0, hX, hO⟩ := hv
  have hts := atoms_spec (ws := Cond.code y bytes maxL none :: gw) B.pre
  have hown : s.vm.findClass y.cls = some m.cls := findClass_of_methodNamed B.named
  subst hsz
  have hD := hD0.self (sz := s.heap.size)
  have hl := lv_entry av (n := maxL) hav
  rw [lg_entry_eq]
  exact body (va_A ws s.heap.size) _ rfl _ rfl ⟨B.exec, B.bytes, hml, hown, fun w hw => hts w (List.mem_cons_of_mem _ hw), hK, fun q h => Or.inr h⟩ ⟨hX, hO, (name_of_methodNamed B.named B.method).1.trans hyn, B.notSynchronized⟩ B.returns s.heap [] _ hP hD va_S.rf hl
section NL
variable {p : Program} {l : Launch} {e : Env} {R : Room} {s : State} {m : MethodId} {args : Array Value} {below : List Frame} {meth : Method} {c : Code} {cc : ByteArray} {nL : Nat} {own : String} {Z : GZ} {Y : YZ} {A : Nat → Prop} {Q : State → Prop} {cells slots pc : Nat} {lv lv' : List (Nat × Value)} {st rest : List Value} {ws ws' : va_W}
theorem g_oinit (C : Cx p s m args c cc nL own Z A) (index : Nat) (hlink : Cond.methodLink own index Lib.objectInit ∈ gw) (hinst : Cond.instanceMethod Lib.objectInit ∈ gw) (hcode : Cond.code Lib.objectInit ⟨#[0xb1]⟩ 1 none ∈ gw) {b : Nat} (d : decode cc pc = .ok (.invokespecial index, 3)) (hfr : 1 ≤ R.frames) (hlo : (st.map fun v => v.category).sum + 12 ≤ R.locals) (k : Gw p l e R s m args below meth c nL Z A Q cells slots (pc + 3) lv (st) (ws)) : Gw p l e R s m args below meth c nL Z A Q cells slots (pc) lv (.ref b :: st) (ws) := fun H locs ls hP hD hS hl => W.objInit C.1 C.2.1 C.2.2.2.1 (C.2.2.2.2.1 _ hlink) (C.2.2.2.2.1 _ hinst) (C.2.2.2.2.1 _ hcode) rfl (by rw [C.2.2.1]; exact hl.1) rfl d hfr (by rw [show (F0 m pc ls (.ref b :: st)).monitorRoom = 0 from rfl, Nat.mul_zero, Nat.zero_add]; exact hlo) (k H locs ls hP hD hS hl)
theorem g_newI (C : Cx p s m args c cc nL own Z A) (harr : Cond.arrayClass .int ∈ gw) {n : Int32} (N : Nat) (hn : ¬ n < 0) (hN : n.toNatClampNeg = N) (hby : N * 4 ≤ 536870912) (hc : cells + 1 ≤ R.cells) (hs : slots + N ≤ R.slots) (d : decode cc pc = .ok (.newarray .int, 2)) (k : ∀ q : Nat, Gw p l e R s m args below meth c nL Z A Q (cells + 1) (slots + N) (pc + 2) lv (.ref q :: st) (ws ++ [(q, .inl (zI Z, N, .inl (fun _ => 0)))])) : Gw p l e R s m args below meth c nL Z A Q cells slots (pc) lv (.int n :: st) (ws) := fun H locs ls hP hD hS hl => va_newa (atype := .int) (ty := .int) (a0 := (N, .inl (fun _ => 0))) C.1 C.2.1 (C.2.2.2.2.1 _ harr) rfl C.2.2.2.2.2.1 hP hD hS C.2.2.2.2.2.2 (fun cA => rfl) hn hN hby hc hs d (fun q cA H1 hK hP hD hS => by
  have h1 : va_RA s cA .int := (hK.2 3 _ rfl).2
  have h2 : va_RA s (zI Z) .int := (C.2.2.2.2.2.1.2 0 _ rfl).2
  have e : cA = zI Z := Option.some.inj (Eq.trans (Eq.symm h1) h2)
  subst e
  exact k q H1 locs ls hP hD hS hl)
theorem g_newJ (C : Cx p s m args c cc nL own Z A) (harr : Cond.arrayClass .long ∈ gw) {n : Int32} (N : Nat) (hn : ¬ n < 0) (hN : n.toNatClampNeg = N) (hby : N * 8 ≤ 536870912) (hc : cells + 1 ≤ R.cells) (hs : slots + N ≤ R.slots) (d : decode cc pc = .ok (.newarray .long, 2)) (k : ∀ q : Nat, Gw p l e R s m args below meth c nL Z A Q (cells + 1) (slots + N) (pc + 2) lv (.ref q :: st) (ws ++ [(q, .inl (zJ Z, N, .inr (.inl (fun _ => 0))))])) : Gw p l e R s m args below meth c nL Z A Q cells slots (pc) lv (.int n :: st) (ws) := fun H locs ls hP hD hS hl => va_newa (atype := .long) (ty := .long) (a0 := (N, .inr (.inl (fun _ => 0)))) C.1 C.2.1 (C.2.2.2.2.1 _ harr) rfl C.2.2.2.2.2.1 hP hD hS C.2.2.2.2.2.2 (fun cA => rfl) hn hN hby hc hs d (fun q cA H1 hK hP hD hS => by
  have h1 : va_RA s cA .long := (hK.2 3 _ rfl).2
  have h2 : va_RA s (zJ Z) .long := (C.2.2.2.2.2.1.2 1 _ rfl).2
  have e : cA = zJ Z := Option.some.inj (Eq.trans (Eq.symm h1) h2)
  subst e
  exact k q H1 locs ls hP hD hS hl)
theorem g_newQ (C : Cx p s m args c cc nL own Z A) (index : Nat) (hlink : Cond.classLink own index RX2 ∈ gw) (hO : va_AO RX2 s) {n : Int32} (N : Nat) (hn : ¬ n < 0) (hN : n.toNatClampNeg = N) (hby : N * 4 ≤ 536870912) (hc : cells + 1 ≤ R.cells) (hs : slots + N ≤ R.slots) (d : decode cc pc = .ok (.anewarray index, 3)) (k : ∀ q : Nat, Gw p l e R s m args below meth c nL Z A Q (cells + 1) (slots + N) (pc + 3) lv (.ref q :: st) (ws ++ [(q, .inl (zQ Z, N, .inr (.inr (.inr (.inr (fun _ => none))))))])) : Gw p l e R s m args below meth c nL Z A Q cells slots (pc) lv (.int n :: st) (ws) := fun H locs ls hP hD hS hl => va_newq C.1 C.2.1 C.2.2.2.1 (C.2.2.2.2.1 _ hlink) hO C.2.2.2.2.2.1 hP hD hS C.2.2.2.2.2.2 hn hN hby hc hs d (fun q cA H1 hK hP hD hS => by
  have h1 : va_RA s cA (.object RX2) := (hK.2 3 _ rfl).2
  have h2 : va_RA s (zQ Z) (.object RX2) := (C.2.2.2.2.2.1.2 2 _ rfl).2
  obtain ⟨_, _, _, _, _, h1⟩ := h1
  obtain ⟨_, _, _, _, _, h2⟩ := h2
  have e : cA = zQ Z := Option.some.inj (Eq.trans (Eq.symm h1) h2)
  subst e
  exact k q H1 locs ls hP hD hS hl)
theorem g_new (C : Cx p s m args c cc nL own Z A) {Cn : String} {T : u_T} {N : Nat} (ci index : Nat) (hin : ∀ w ∈ u_ws Cn T N, w ∈ gw) (ty0 : Nat → FieldType) (hty : ∀ k, k < N → parseFieldDescriptor (T k).2.2.1 = some (ty0 k)) (hlink : Cond.classLink own index Cn ∈ gw) (hinst : Cond.instantiable Cn N ∈ gw) (hini : Cond.initialized Cn ∈ gw) (hci : vwCl[ci]? = some (Cn, T, N)) (fs : List Value) (hfs : ∀ j, j < N → defaultValue (ty0 j) = vp_V fs j) (hc : cells + 1 ≤ R.cells) (hs : slots + N ≤ R.slots) (d : decode cc pc = .ok (.new index, 3)) (k : ∀ q : Nat, Gw p l e R s m args below meth c nL Z A Q (cells + 1) (slots + N) (pc + 3) lv (.ref q :: st) (ws ++ [(q, .inr (ci, fs))])) : Gw p l e R s m args below meth c nL Z A Q cells slots (pc) lv (st) (ws) := fun H locs ls hP hD hS hl => va_new (ci := ci) (fs := fs) C.1 C.2.1 C.2.2.2.2.1 hin ty0 hty C.2.2.2.1 (C.2.2.2.2.1 _ hlink) (C.2.2.2.2.1 _ hinst) (C.2.2.2.2.1 _ hini) C.2.2.2.2.2.1 hP hD hS C.2.2.2.2.2.2 hci hfs hc hs d (fun q H1 hP hD hS => k q H1 locs ls hP hD hS hl)
theorem g_astq (C : Cx p s m args c cc nL own Z A) (q0 qk ci : Nat) {b v n : Nat} {vs : List Value} {f : Nat → Option Nat} {T : u_T} {N : Nat} (ha : ws[q0]? = some (b, .inl (zQ Z, n, .inr (.inr (.inr (.inr f)))))) (hv : ws[qk]? = some (v, .inr (ci, vs))) (hc : vwCl[ci]? = some (RX2, T, N)) {i : Int32} (hin : okI i n = true) (ws' : va_W) (hw : ws.set q0 (b, .inl (zQ Z, n, .inr (.inr (.inr (.inr (va_up f i.toNatClampNeg (some v))))))) = ws') (d : decode cc pc = .ok (.aastore, 1)) (k : Gw p l e R s m args below meth c nL Z A Q cells slots (pc + 1) lv (st) (ws')) : Gw p l e R s m args below meth c nL Z A Q cells slots (pc) lv (.ref v :: .int i :: .ref b :: st) (ws) := fun H locs ls hP hD hS hl => va_astq C.1 C.2.1 C.2.2.2.2.2.1 hP hD hS q0 2 qk ci ha rfl hv hc (okI_in hin) d (fun H1 locs1 hP1 hD1 hS1 => k H1 locs1 ls (by rw [← hw]; exact hP1) (by rw [← hw]; exact hD1) hS1 hl)
theorem g_ctorN (C : Cx p s m args c cc nL own Z A) (hX : XT Y A s s.heap) (hO : va_AO RX2 s) {y : MethodName} {host : String} {bytes : ByteArray} {maxL fr lo mc ms b : Nat} {wc wr : va_W} {post : va_W → Prop} (hM : XN l Z Y y bytes maxL fr lo mc ms [.ref b] wc post) (my : MYi y bytes maxL 0) (index : Nat) (hl0 : va_Nw (.methodLinkNest own index y host) s) (is isR : List Nat) (hC : is.map (fun i => ws[i]?) = wc.map some) (hR : isR.map (fun i => ws[i]?) = wr.map some) (hnd : va_nd isR = true) (hndC : va_nd is = true) (hdis : ∀ i ∈ isR, i ∉ is) (hroom : (st.map fun v => v.category).sum ≤ 8) (hfr : fr + 1 ≤ R.frames) (hlo : 8 + (maxL + 11) + lo ≤ R.locals) (hfit : cells + mc ≤ R.cells ∧ slots + ms ≤ R.slots) (d : decode cc pc = .ok (.invokespecial index, 3)) (k : ∀ w, post w → Gw p l e R s m args below meth c nL Z A Q (cells + mc) (slots + ms) (pc + 3) lv (st) (wr ++ w)) : Gw p l e R s m args below meth c nL Z A Q cells slots (pc) lv (.ref b :: st) (ws) := by
  intro H locs ls hP hD hS hl
  have hPc := hP.sub (ws' := wc) is (fm_of hC)
  have hDc := hD.sub is hndC hC
  have hFc := va_free hD hS C.2.2.2.2.2.2 is hC
  have hX1 : XT Y (va_A wc H.size) s H := (hX.kept hS.2.1).narrow hFc
  refine va_callv (va_runIN (As := []) (rest := st) ⟨C.1, C.2.1, C.2.2.1, C.2.2.2.1, C.2.2.2.2.1⟩ (hM H.size) ⟨⟨⟨rfl, rfl, hfr, hlo, gw_ws C.2.2.2.2.1 my.2.1, List.mem_cons_self⟩, C.2.2.2.2.1 _ my.2.1, C.2.2.2.2.1 _ my.2.2.1, my.2.2.2.1, (fun sig h => by have h9 := my.2.2.2.2.1; rw [h] at h9; exact (Option.some.inj h9).symm), va_Nw.use rfl hl0⟩, my.2.2.2.2.2, C.2.2.2.2.1 _ my.1⟩ ⟨PcN_blind, fun U hU hW => ⟨rfl, by rw [hU], by rw [hU]; exact hPc, va_K.moved hW.alike C.2.2.2.2.2.1, hDc.weaken (fun _ _ _ _ => trivial), by rw [hU]; exact XT.warm hW hX1, va_AO.moved hW.alike hO⟩⟩ rfl rfl hl.1 rfl (lv_room hroom) d hfit) hS (fun q _ h => hFc q h) hFc (fun w t H1 locs1 ht hvm hw hB hz1 hk1 hS1 => ?_)
  obtain ⟨hP1, hK1, hD1⟩ := hB
  rw [ht] at hP1
  obtain ⟨hP2, hD2⟩ := va_join hP hD is isR hC hR hnd hdis hk1 hFc hP1 hD1
  exact k w hw H1 locs1 ls hP2 hD2 hS1 hl
theorem g_ctor (C : Cx p s m args c cc nL own Z A) (hX : XT Y A s s.heap) (hO : va_AO RX2 s) {y : MethodName} {bytes : ByteArray} {maxL fr lo mc ms b : Nat} {wc wr : va_W} {post : va_W → Prop} (hM : XN l Z Y y bytes maxL fr lo mc ms [.ref b] wc post) (my : MYi y bytes maxL 0) (index : Nat) (hl0 : Cond.methodLink own index y ∈ gw) (is isR : List Nat) (hC : is.map (fun i => ws[i]?) = wc.map some) (hR : isR.map (fun i => ws[i]?) = wr.map some) (hnd : va_nd isR = true) (hndC : va_nd is = true) (hdis : ∀ i ∈ isR, i ∉ is) (hroom : (st.map fun v => v.category).sum ≤ 8) (hfr : fr + 1 ≤ R.frames) (hlo : 8 + (maxL + 11) + lo ≤ R.locals) (hfit : cells + mc ≤ R.cells ∧ slots + ms ≤ R.slots) (d : decode cc pc = .ok (.invokespecial index, 3)) (k : ∀ w, post w → Gw p l e R s m args below meth c nL Z A Q (cells + mc) (slots + ms) (pc + 3) lv (st) (wr ++ w)) : Gw p l e R s m args below meth c nL Z A Q cells slots (pc) lv (.ref b :: st) (ws) := by
  intro H locs ls hP hD hS hl
  have hPc := hP.sub (ws' := wc) is (fm_of hC)
  have hDc := hD.sub is hndC hC
  have hFc := va_free hD hS C.2.2.2.2.2.2 is hC
  have hX1 : XT Y (va_A wc H.size) s H := (hX.kept hS.2.1).narrow hFc
  refine va_callv (va_runI (As := []) (rest := st) ⟨C.1, C.2.1, C.2.2.1, C.2.2.2.1, C.2.2.2.2.1⟩ (hM H.size) ⟨cbG C.2.2.2.2.1 hfr hlo my.2.1 my.2.2.1 my.2.2.2.1 my.2.2.2.2.1 hl0, my.2.2.2.2.2, C.2.2.2.2.1 _ my.1⟩ ⟨PcN_blind, fun U hU hW => ⟨rfl, by rw [hU], by rw [hU]; exact hPc, va_K.moved hW.alike C.2.2.2.2.2.1, hDc.weaken (fun _ _ _ _ => trivial), by rw [hU]; exact XT.warm hW hX1, va_AO.moved hW.alike hO⟩⟩ rfl rfl hl.1 rfl (lv_room hroom) d hfit) hS (fun q _ h => hFc q h) hFc (fun w t H1 locs1 ht hvm hw hB hz1 hk1 hS1 => ?_)
  obtain ⟨hP1, hK1, hD1⟩ := hB
  rw [ht] at hP1
  obtain ⟨hP2, hD2⟩ := va_join hP hD is isR hC hR hnd hdis hk1 hFc hP1 hD1
  exact k w hw H1 locs1 ls hP2 hD2 hS1 hl
theorem g_nret (C : Cx p s m args c cc nL own Z A) (N : Nx Y A s meth) {post : va_W → Prop} {mc ms : Nat} (hr : meth.sig.returnType = none) (hc : cells ≤ mc) (hs : slots ≤ ms) (d : decode cc pc = .ok (.return_, 1)) (w : va_W) (hp : post w) (is : List Nat) (hI : is.map (fun i => ws[i]?) = w.map some) (hnd : va_nd is = true) : Gw p l e R s m args below meth c nL Z A (QN Z A below args s post mc ms) cells slots pc lv [] ws := by
  intro H locs ls hP hD hS hl
  exact W.widen hc hs (W.vret C.1 C.2.1 hr (fun t ht hW => ⟨⟨w, rfl, hp, by rw [ht]; exact hP.sub is (fm_of hI), va_K.moved hW.alike C.2.2.2.2.2.1, hD.sub is hnd hI⟩, hS.F ht⟩) hS.2.2 d N.2.2.2)
end NL
theorem dfX0 : ∀ j, j < 2 → defaultValue (tyX0 j) = vp_V [.null, .int 0] j := by
  intro j hj
  rcases (show j = 0 ∨ j = 1 by omega) with rfl | rfl <;> rfl
theorem dfX1 : ∀ j, j < 3 → defaultValue (tyX1 j) = vp_V [.null, .int 0, .int 0] j := by
  intro j hj
  rcases (show j = 0 ∨ j = 1 ∨ j = 2 by omega) with rfl | rfl | rfl <;> rfl
theorem dfX2 : ∀ j, j < 3 → defaultValue (tyX2 j) = vp_V [.null, .int 0, .int 0] j := by
  intro j hj
  rcases (show j = 0 ∨ j = 1 ∨ j = 2 by omega) with rfl | rfl | rfl <;> rfl
theorem dfX3 : ∀ j, j < 9 → defaultValue (tyX3 j) = vp_V [.null, .null, .null, .null, .null, .int 0, .null, .int 0, .int 0] j := by
  intro j hj
  rcases (show j = 0 ∨ j = 1 ∨ j = 2 ∨ j = 3 ∨ j = 4 ∨ j = 5 ∨ j = 6 ∨ j = 7 ∨ j = 8 by omega) with rfl | rfl | rfl | rfl | rfl | rfl | rfl | rfl | rfl <;> rfl
theorem dfX4 : ∀ j, j < 8 → defaultValue (tyX4 j) = vp_V [.null, .null, .null, .null, .null, .null, .null, .null] j := by
  intro j hj
  rcases (show j = 0 ∨ j = 1 ∨ j = 2 ∨ j = 3 ∨ j = 4 ∨ j = 5 ∨ j = 6 ∨ j = 7 by omega) with rfl | rfl | rfl | rfl | rfl | rfl | rfl | rfl <;> rfl
theorem dfX5 : ∀ j, j < 5 → defaultValue (tyX5 j) = vp_V [.null, .int 0, .int 0, .int 0, .int 0] j := by
  intro j hj
  rcases (show j = 0 ∨ j = 1 ∨ j = 2 ∨ j = 3 ∨ j = 4 by omega) with rfl | rfl | rfl | rfl | rfl <;> rfl
theorem dfX6 : ∀ j, j < 9 → defaultValue (tyX6 j) = vp_V [.null, .null, .null, .null, .null, .null, .null, .null, .int 0] j := by
  intro j hj
  rcases (show j = 0 ∨ j = 1 ∨ j = 2 ∨ j = 3 ∨ j = 4 ∨ j = 5 ∨ j = 6 ∨ j = 7 ∨ j = 8 by omega) with rfl | rfl | rfl | rfl | rfl | rfl | rfl | rfl | rfl <;> rfl
theorem dfX7 : ∀ j, j < 28 → defaultValue (tyX7 j) = vp_V [.int 0, .null, .int 0, .int 0, .int 0, .int 0, .int 0, .int 0, .null, .null, .null, .null, .int 0, .int 0, .null, .null, .null, .null, .int 0, .int 0, .null, .null, .null, .null, .int 0, .int 0, .null, .int 0] j := by
  intro j hj
  rcases (show j = 0 ∨ j = 1 ∨ j = 2 ∨ j = 3 ∨ j = 4 ∨ j = 5 ∨ j = 6 ∨ j = 7 ∨ j = 8 ∨ j = 9 ∨ j = 10 ∨ j = 11 ∨ j = 12 ∨ j = 13 ∨ j = 14 ∨ j = 15 ∨ j = 16 ∨ j = 17 ∨ j = 18 ∨ j = 19 ∨ j = 20 ∨ j = 21 ∨ j = 22 ∨ j = 23 ∨ j = 24 ∨ j = 25 ∨ j = 26 ∨ j = 27 by omega) with rfl | rfl | rfl | rfl | rfl | rfl | rfl | rfl | rfl | rfl | rfl | rfl | rfl | rfl | rfl | rfl | rfl | rfl | rfl | rfl | rfl | rfl | rfl | rfl | rfl | rfl | rfl | rfl <;> rfl

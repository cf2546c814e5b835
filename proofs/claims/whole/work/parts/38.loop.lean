/-! THE CLAIM OUT OF ONE WALK OF THE LAW'S BODY. Your part is whole_start (and what it stands on); all else here is the same for every law, but numbers. -/
def R_law : String := "FaceLatticeLaw"
def lw_P (b : Addr) (xs : List Int32) (args : Array Value) (s : State) : Prop := args = #[.ref b] ∧ s.IntsAt b xs ∧ xs.length ≤ 3072 ∧ (Jvm.Cond.and given_1 narrow_1).before args s = true
def lw_Q (_ : Array Value) (s : State) (o : Outcome) (t : State) : Prop := o = .returned (some (.int 1)) ∧ Framed s o t [] 601024 7293034
def lw_Z (below : List Frame) (a : Array Value) (s : State) : State → Prop := fun t => ∃ o, t.status = .running ∧ Ended t below o ∧ lw_Q a s o t
/-- the law's own end, with 1 on the stack, nothing written that was there before, its room as the claim has it -/
theorem lw_ret {p : Program} {l : Launch} {e : Env} {s : State} {m : MethodId} {below : List Frame} {meth : Method} {c : Code} {b : Nat} (hx : p.tables.exec = Jvm.exec) (hb : c.code = code) (hr : meth.sig.returnType = ret) (hlocks : meth.locks = false) {pc : Nat} {H : Heap} {ls : Array Slot} (hdg : decode code pc = .ok (.ireturn, 1)) : W p l e room_1 s m #[Value.ref b] below meth c H [] 601024 7293034 (lw_Z below #[Value.ref b] s) (F0 m pc ls [.int 1]) := by
  intro T hT X
  obtain ⟨fs, hret, hrun, hended, hW, hframe⟩ := X.leave (v := some (.int 1)) (hlocks := hlocks) (fun h => by rw [hr] at h; cases h)
  have hmeth' : T.vm.method? m = some meth := X.method'
  refine ⟨T.setFrames fs, ?_, .returned (some (.int 1)), hrun, hended, rfl, ⟨_, rfl⟩, hW, hframe⟩
  jvm_step X.here [X.here.top, hx, hb, hdg, hmeth', hr, ret, narrow_b1]
  (try refine ⟨rfl, ?_⟩); (try refine ⟨rfl, ?_⟩)
  first | (intro acts; rw [hret _ acts rfl rfl rfl]) | rw [hret _ _ rfl rfl rfl]
  exact Steps.refl _
/-- what holds at the law's entry: the machine, the code, the tables' words (any of lw_tbl by 'hts w (by decide +kernel)'), the script of L ints xs at the cell b, what the Statement gives of the start (any of its parts by flat_of_before) -/
def lw_At (p : Program) (s : State) (m : MethodId) (meth : Method) (c : Code) (b L : Nat) (xs : Nat → Int32) : Prop :=
  p.tables.exec = Jvm.exec ∧ c.code = code ∧ meth.sig.returnType = ret ∧ c.maxLocals = 7 ∧ s.vm.findClass R_law = some m.cls ∧ (∀ w ∈ lw_tbl, w.before #[Value.ref b] s = true) ∧ va_X b L xs s s.heap ∧ b < s.heap.size ∧ meth.locks = false ∧ (Jvm.Cond.and given_1 narrow_1).before #[Value.ref b] s = true
theorem and63 (x : Int32) : ∃ w, w < 64 ∧ x &&& 63 = nI w := by
  refine ⟨(x &&& 63).toBitVec.toNat, ?_, ?_⟩
  · show (x.toBitVec &&& (63 : Int32).toBitVec).toNat < 64
    rw [BitVec.toNat_and]
    exact Nat.lt_of_le_of_lt Nat.and_le_right (by decide)
  · apply Int32.toBitVec_inj.1
    show (x &&& 63).toBitVec = (Int32.ofNat _).toBitVec
    rw [Int32.toBitVec_ofNat']
    simp
def SK_0 (Rel : OX6 → OX7 → Prop) (o : OX6) (r : OX7) (x1 : Int32) (x2 : Int32) (x3 : Int32) (x4 : Int32) (x5 : Int32) : Prop := ∃ (res : (Nat ⊕ Int32) × OX6) (res2 : Int32 × OX7), fX6_append o x1 x2 x3 x4 x5 = some res ∧ fX7_append r x1 x2 x3 x4 x5 = some res2 ∧ (∀ k, res.1 = .inl k → k = 0) ∧ q7_thrown (mh_append r res2.2) = hcd [0] res.1 ∧ (∀ v, res.1 = .inr v → res2.1 = v) ∧ Rel (mg_append o res.2) (mh_append r res2.2)
def SK_1 (Rel : OX6 → OX7 → Prop) (o : OX6) (r : OX7) (x1 : Int32) : Prop := ∃ (res : (Nat ⊕ Int32) × OX6) (res2 : Int32 × OX7), fX6_truncate o x1 = some res ∧ fX7_truncate r x1 = some res2 ∧ (∀ k, res.1 = .inl k → k = 1) ∧ q7_thrown (mh_truncate r res2.2) = hcd [1] res.1 ∧ (∀ v, res.1 = .inr v → res2.1 = v) ∧ Rel (mg_truncate o res.2) (mh_truncate r res2.2)
def SK_2 (Rel : OX6 → OX7 → Prop) (o : OX6) (r : OX7) : Prop := ∃ (res : Int32 × OX6) (res2 : Int32 × OX7), fX6_errorPosition o = some res ∧ fX7_errorPosition r = some res2 ∧ res.1 = res2.1 ∧ Rel (mg_errorPosition o res.2) (mh_errorPosition r res2.2)
def SK_3 (Rel : OX6 → OX7 → Prop) (o : OX6) (r : OX7) : Prop := ∃ (res : (Nat ⊕ Int32) × OX6) (res2 : Int32 × OX7), fX6_load o = some res ∧ fX7_load r = some res2 ∧ (∀ k, res.1 = .inl k → k = 1) ∧ q7_thrown (mh_load r res2.2) = hcd [1] res.1 ∧ (∀ v, res.1 = .inr v → res2.1 = v) ∧ Rel (mg_load o res.2) (mh_load r res2.2)
def SK_4 (Rel : OX6 → OX7 → Prop) (o : OX6) (r : OX7) (x1 : Int32) (x2 : Int32) (x3 : Int32) : Prop := ∃ (res : (Nat ⊕ Int32) × OX6) (res2 : Int32 × OX7), fX6_setIncident o x1 x2 (bz x3) = some res ∧ fX7_setIncident r x1 x2 (bz x3) = some res2 ∧ (∀ k, res.1 = .inl k → k = 2) ∧ q7_thrown (mh_setIncident r res2.2) = hcd [2] res.1 ∧ (∀ v, res.1 = .inr v → res2.1 = v) ∧ Rel (mg_setIncident o res.2) (mh_setIncident r res2.2)
def SK_5 (Rel : OX6 → OX7 → Prop) (o : OX6) (r : OX7) (x1 : Int32) : Prop := ∃ (res : (Nat ⊕ Int32) × OX6) (res2 : Int32 × OX7), fX6_addFacet o x1 = some res ∧ fX7_addFacet r x1 = some res2 ∧ (∀ k, res.1 = .inl k → k = 1 ∨ k = 0) ∧ q7_thrown (mh_addFacet r res2.2) = hcd [1, 0] res.1 ∧ (∀ v, res.1 = .inr v → res2.1 = v) ∧ Rel (mg_addFacet o res.2) (mh_addFacet r res2.2)
def SK_6 (Rel : OX6 → OX7 → Prop) (o : OX6) (r : OX7) (x1 : Int32) : Prop := ∃ (res : (Nat ⊕ Int32) × OX6) (res2 : Int32 × OX7), fX6_removeFacet o x1 = some res ∧ fX7_removeFacet r x1 = some res2 ∧ (∀ k, res.1 = .inl k → k = 2) ∧ q7_thrown (mh_removeFacet r res2.2) = hcd [2] res.1 ∧ (∀ v, res.1 = .inr v → res2.1 = v) ∧ Rel (mg_removeFacet o res.2) (mh_removeFacet r res2.2)
def SK_7 (Rel : OX6 → OX7 → Prop) (o : OX6) (r : OX7) : Prop := ∃ (res : (Nat ⊕ Int32) × OX6) (res2 : Int32 × OX7), fX6_dual o = some res ∧ fX7_dual r = some res2 ∧ (∀ k, res.1 = .inl k → k = 0) ∧ q7_thrown (mh_dual r res2.2) = hcd [0] res.1 ∧ (∀ v, res.1 = .inr v → res2.1 = v) ∧ Rel (mg_dual o res.2) (mh_dual r res2.2)
def SK_8 (Rel : OX6 → OX7 → Prop) (o : OX6) (r : OX7) : Prop := ∃ (res : (Nat ⊕ Int32) × OX6) (res2 : Int32 × OX7), fX6_pyramid o = some res ∧ fX7_pyramid r = some res2 ∧ (∀ k, res.1 = .inl k → k = 0) ∧ q7_thrown (mh_pyramid r res2.2) = hcd [0] res.1 ∧ (∀ v, res.1 = .inr v → res2.1 = v) ∧ Rel (mg_pyramid o res.2) (mh_pyramid r res2.2)
def SK_9 (Rel : OX6 → OX7 → Prop) (o : OX6) (r : OX7) (x1 : Int32) : Prop := ∃ (res : (Nat ⊕ Int32) × OX6) (res2 : Int32 × OX7), fX6_stack o x1 = some res ∧ fX7_stack r x1 = some res2 ∧ (∀ k, res.1 = .inl k → k = 2 ∨ k = 0) ∧ q7_thrown (mh_stack r res2.2) = hcd [2, 0] res.1 ∧ (∀ v, res.1 = .inr v → res2.1 = v) ∧ Rel (mg_stack o res.2) (mh_stack r res2.2)
def SK_10 (Rel : OX6 → OX7 → Prop) (o : OX6) (r : OX7) (x1 : Int32) : Prop := ∃ (res : (Nat ⊕ Int32) × OX6) (res2 : Int32 × OX7), fX6_cutOff o x1 = some res ∧ fX7_cutOff r x1 = some res2 ∧ (∀ k, res.1 = .inl k → k = 2 ∨ k = 0) ∧ q7_thrown (mh_cutOff r res2.2) = hcd [2, 0] res.1 ∧ (∀ v, res.1 = .inr v → res2.1 = v) ∧ Rel (mg_cutOff o res.2) (mh_cutOff r res2.2)
def SK_11 (Rel : OX6 → OX7 → Prop) (o : OX6) (r : OX7) (x1 : Int32) : Prop := ∃ (res : (Nat ⊕ Int32) × OX6) (res2 : Int32 × OX7), fX6_keepFace o x1 = some res ∧ fX7_keepFace r x1 = some res2 ∧ (∀ k, res.1 = .inl k → k = 2 ∨ k = 0) ∧ q7_thrown (mh_keepFace r res2.2) = hcd [2, 0] res.1 ∧ (∀ v, res.1 = .inr v → res2.1 = v) ∧ Rel (mg_keepFace o res.2) (mh_keepFace r res2.2)
def SK_12 (Rel : OX6 → OX7 → Prop) (o : OX6) (r : OX7) (x1 : Int32) : Prop := ∃ (res : (Nat ⊕ Int32) × OX6) (res2 : Int32 × OX7), fX6_figure o x1 = some res ∧ fX7_figure r x1 = some res2 ∧ (∀ k, res.1 = .inl k → k = 2 ∨ k = 0) ∧ q7_thrown (mh_figure r res2.2) = hcd [2, 0] res.1 ∧ (∀ v, res.1 = .inr v → res2.1 = v) ∧ Rel (mg_figure o res.2) (mh_figure r res2.2)
def SK_13 (Rel : OX6 → OX7 → Prop) (o : OX6) (r : OX7) : Prop := ∃ (res : (Nat ⊕ Int32) × OX6) (res2 : Int32 × OX7), fX6_undo o = some res ∧ fX7_undo r = some res2 ∧ (∀ k, res.1 = .inl k → k = 0) ∧ q7_thrown (mh_undo r res2.2) = hcd [0] res.1 ∧ (∀ v, res.1 = .inr v → res2.1 = v) ∧ Rel (mg_undo o res.2) (mh_undo r res2.2)
def SK_14 (Rel : OX6 → OX7 → Prop) (o : OX6) (r : OX7) : Prop := ∃ (res : Int32) (res2 : Int32 × OX7), fX6_undoCount o = some res ∧ fX7_undoCount r = some res2 ∧ res = res2.1 ∧ Rel o (mh_undoCount r res2.2)
def SK_15 (Rel : OX6 → OX7 → Prop) (o : OX6) (r : OX7) : Prop := ∃ (res : Int32 × OX6) (res2 : Int32 × OX7), fX6_save o = some res ∧ fX7_save r = some res2 ∧ res.1 = res2.1 ∧ Rel (mg_save o res.2) (mh_save r res2.2)
def SK_16 (Rel : OX6 → OX7 → Prop) (o : OX6) (r : OX7) : Prop := ∃ (res : (Nat ⊕ Int32) × OX6) (res2 : Int32 × OX7), fX6_restore o = some res ∧ fX7_restore r = some res2 ∧ (∀ k, res.1 = .inl k → k = 0) ∧ q7_thrown (mh_restore r res2.2) = hcd [0] res.1 ∧ (∀ v, res.1 = .inr v → res2.1 = v) ∧ Rel (mg_restore o res.2) (mh_restore r res2.2)
def SK_17 (Rel : OX6 → OX7 → Prop) (o : OX6) (r : OX7) : Prop := ∃ (res : Int32) (res2 : Int32 × OX7), fX6_pointCount o = some res ∧ fX7_pointCount r = some res2 ∧ res = res2.1 ∧ Rel o (mh_pointCount r res2.2)
def SK_18 (Rel : OX6 → OX7 → Prop) (o : OX6) (r : OX7) : Prop := ∃ (res : Int32) (res2 : Int32 × OX7), fX6_facetCount o = some res ∧ fX7_facetCount r = some res2 ∧ res = res2.1 ∧ Rel o (mh_facetCount r res2.2)
def SK_19 (Rel : OX6 → OX7 → Prop) (o : OX6) (r : OX7) (x1 : Int32) : Prop := ∃ (res : (Nat ⊕ Int32)) (res2 : Int32 × OX7), fX6_facet o x1 = some res ∧ fX7_facet r x1 = some res2 ∧ (∀ k, res = .inl k → k = 2) ∧ q7_thrown (mh_facet r res2.2) = hcd [2] res ∧ (∀ v, res = .inr v → res2.1 = v) ∧ Rel o (mh_facet r res2.2)
def SK_20 (Rel : OX6 → OX7 → Prop) (o : OX6) (r : OX7) (x1 : Int32) : Prop := ∃ (res : (Nat ⊕ Int32)) (res2 : Int32 × OX7), fX6_facetsOf o x1 = some res ∧ fX7_facetsOf r x1 = some res2 ∧ (∀ k, res = .inl k → k = 2) ∧ q7_thrown (mh_facetsOf r res2.2) = hcd [2] res ∧ (∀ v, res = .inr v → res2.1 = v) ∧ Rel o (mh_facetsOf r res2.2)
def SK_21 (Rel : OX6 → OX7 → Prop) (o : OX6) (r : OX7) (x1 : Int32) : Prop := ∃ (res : (Nat ⊕ Int32)) (res2 : Int32 × OX7), fX6_closure o x1 = some res ∧ fX7_closure r x1 = some res2 ∧ (∀ k, res = .inl k → k = 1) ∧ q7_thrown (mh_closure r res2.2) = hcd [1] res ∧ (∀ v, res = .inr v → res2.1 = v) ∧ Rel o (mh_closure r res2.2)
def SK_22 (Rel : OX6 → OX7 → Prop) (o : OX6) (r : OX7) : Prop := ∃ (res : Int32) (res2 : Int32 × OX7), fX6_faceCount o = some res ∧ fX7_faceCount r = some res2 ∧ res = res2.1 ∧ Rel o (mh_faceCount r res2.2)
def SK_23 (Rel : OX6 → OX7 → Prop) (o : OX6) (r : OX7) (x1 : Int32) : Prop := ∃ (res : (Nat ⊕ Int32)) (res2 : Int32 × OX7), fX6_face o x1 = some res ∧ fX7_face r x1 = some res2 ∧ (∀ k, res = .inl k → k = 2) ∧ q7_thrown (mh_face r res2.2) = hcd [2] res ∧ (∀ v, res = .inr v → res2.1 = v) ∧ Rel o (mh_face r res2.2)
def SK_24 (Rel : OX6 → OX7 → Prop) (o : OX6) (r : OX7) (x1 : Int32) : Prop := ∃ (res : Int32) (res2 : Int32 × OX7), fX6_indexOf o x1 = some res ∧ fX7_indexOf r x1 = some res2 ∧ res = res2.1 ∧ Rel o (mh_indexOf r res2.2)
def SK_25 (Rel : OX6 → OX7 → Prop) (o : OX6) (r : OX7) (x1 : Int32) : Prop := ∃ (res : (Nat ⊕ Int32)) (res2 : Int32 × OX7), fX6_rank o x1 = some res ∧ fX7_rank r x1 = some res2 ∧ (∀ k, res = .inl k → k = 2) ∧ q7_thrown (mh_rank r res2.2) = hcd [2] res ∧ (∀ v, res = .inr v → res2.1 = v) ∧ Rel o (mh_rank r res2.2)
def SK_26 (Rel : OX6 → OX7 → Prop) (o : OX6) (r : OX7) : Prop := ∃ (res : Int32) (res2 : Int32 × OX7), fX6_height o = some res ∧ fX7_height r = some res2 ∧ res = res2.1 ∧ Rel o (mh_height r res2.2)
def SK_27 (Rel : OX6 → OX7 → Prop) (o : OX6) (r : OX7) (x1 : Int32) : Prop := ∃ (res : (Nat ⊕ Int32)) (res2 : Int32 × OX7), fX6_ofRank o x1 = some res ∧ fX7_ofRank r x1 = some res2 ∧ (∀ k, res = .inl k → k = 1) ∧ q7_thrown (mh_ofRank r res2.2) = hcd [1] res ∧ (∀ v, res = .inr v → res2.1 = v) ∧ Rel o (mh_ofRank r res2.2)
def SK_28 (Rel : OX6 → OX7 → Prop) (o : OX6) (r : OX7) (x1 : Int32) (x2 : Int32) : Prop := ∃ (res : (Nat ⊕ Int32)) (res2 : Int32 × OX7), fX6_covers o x1 (bz x2) = some res ∧ fX7_covers_ r x1 (bz x2) = some res2 ∧ (∀ k, res = .inl k → k = 2) ∧ q7_thrown (mh_covers r res2.2) = hcd [2] res ∧ (∀ v, res = .inr v → res2.1 = v) ∧ Rel o (mh_covers r res2.2)
def SK_29 (Rel : OX6 → OX7 → Prop) (o : OX6) (r : OX7) (x1 : Int32) (x2 : Int32) (x3 : Int32) : Prop := ∃ (res : (Nat ⊕ Int32)) (res2 : Int32 × OX7), fX6_cover o x1 (bz x2) x3 = some res ∧ fX7_cover r x1 (bz x2) x3 = some res2 ∧ (∀ k, res = .inl k → k = 2) ∧ q7_thrown (mh_cover r res2.2) = hcd [2] res ∧ (∀ v, res = .inr v → res2.1 = v) ∧ Rel o (mh_cover r res2.2)
def SK_30 (Rel : OX6 → OX7 → Prop) (o : OX6) (r : OX7) (x1 : Int32) (x2 : Int32) : Prop := ∃ (res : (Nat ⊕ Int32)) (res2 : Int32 × OX7), fX6_join o x1 x2 = some res ∧ fX7_join r x1 x2 = some res2 ∧ (∀ k, res = .inl k → k = 2) ∧ q7_thrown (mh_join r res2.2) = hcd [2] res ∧ (∀ v, res = .inr v → res2.1 = v) ∧ Rel o (mh_join r res2.2)
def SK_31 (Rel : OX6 → OX7 → Prop) (o : OX6) (r : OX7) (x1 : Int32) (x2 : Int32) : Prop := ∃ (res : (Nat ⊕ Int32)) (res2 : Int32 × OX7), fX6_meet o x1 x2 = some res ∧ fX7_meet r x1 x2 = some res2 ∧ (∀ k, res = .inl k → k = 2) ∧ q7_thrown (mh_meet r res2.2) = hcd [2] res ∧ (∀ v, res = .inr v → res2.1 = v) ∧ Rel o (mh_meet r res2.2)
def SK_32 (Rel : OX6 → OX7 → Prop) (o : OX6) (r : OX7) (x1 : Int32) (x2 : Int32) : Prop := ∃ (res : (Nat ⊕ Int32)) (res2 : Int32 × OX7), fX6_between o x1 x2 = some res ∧ fX7_between r x1 x2 = some res2 ∧ (∀ k, res = .inl k → k = 2) ∧ q7_thrown (mh_between r res2.2) = hcd [2] res ∧ (∀ v, res = .inr v → res2.1 = v) ∧ Rel o (mh_between r res2.2)
def SK_33 (Rel : OX6 → OX7 → Prop) (o : OX6) (r : OX7) (x1 : Int32) (x2 : Int32) : Prop := ∃ (res : (Nat ⊕ Int32) × OX6) (res2 : Int32 × OX7), fX6_chains o x1 x2 = some res ∧ fX7_chains r x1 x2 = some res2 ∧ (∀ k, res.1 = .inl k → k = 2) ∧ q7_thrown (mh_chains r res2.2) = hcd [2] res.1 ∧ (∀ v, res.1 = .inr v → res2.1 = v) ∧ Rel (mg_chains o res.2) (mh_chains r res2.2)
def SK_34 (Rel : OX6 → OX7 → Prop) (o : OX6) (r : OX7) (x1 : Int32) (x2 : Int32) : Prop := ∃ (res : (Nat ⊕ Int32) × OX6) (res2 : Int32 × OX7), fX6_mobius o x1 x2 = some res ∧ fX7_mobius r x1 x2 = some res2 ∧ (∀ k, res.1 = .inl k → k = 2) ∧ q7_thrown (mh_mobius r res2.2) = hcd [2] res.1 ∧ (∀ v, res.1 = .inr v → res2.1 = v) ∧ Rel (mg_mobius o res.2) (mh_mobius r res2.2)
def SK_35 (Rel : OX6 → OX7 → Prop) (o : OX6) (r : OX7) : Prop := ∃ (res : Int32) (res2 : Int32 × OX7), fX6_isGraded o = some res ∧ fX7_isGraded r = some res2 ∧ res = res2.1 ∧ Rel o (mh_isGraded r res2.2)
def SK_36 (Rel : OX6 → OX7 → Prop) (o : OX6) (r : OX7) : Prop := ∃ (res : Int32) (res2 : Int32 × OX7), fX6_alternating o = some res ∧ fX7_alternating r = some res2 ∧ res = res2.1 ∧ Rel o (mh_alternating r res2.2)
def SK_37 (Rel : OX6 → OX7 → Prop) (o : OX6) (r : OX7) : Prop := ∃ (res : Int32 × OX6) (res2 : Int32 × OX7), fX6_isEulerian o = some res ∧ fX7_isEulerian r = some res2 ∧ res.1 = res2.1 ∧ Rel (mg_isEulerian o res.2) (mh_isEulerian r res2.2)
def SK_38 (Rel : OX6 → OX7 → Prop) (o : OX6) (r : OX7) : Prop := ∃ (res : Int32) (res2 : Int32 × OX7), fX6_isSimplicial o = some res ∧ fX7_isSimplicial r = some res2 ∧ res = res2.1 ∧ Rel o (mh_isSimplicial r res2.2)
def SK_39 (Rel : OX6 → OX7 → Prop) (o : OX6) (r : OX7) : Prop := ∃ (res : Int32) (res2 : Int32 × OX7), fX6_isSimple o = some res ∧ fX7_isSimple r = some res2 ∧ res = res2.1 ∧ Rel o (mh_isSimple r res2.2)
def SK_40 (Rel : OX6 → OX7 → Prop) (o : OX6) (r : OX7) : Prop := ∃ (res : Int32 × OX6) (res2 : Int32 × OX7), fX6_flags o = some res ∧ fX7_flags r = some res2 ∧ res.1 = res2.1 ∧ Rel (mg_flags o res.2) (mh_flags r res2.2)
def SK_41 (Rel : OX6 → OX7 → Prop) (o : OX6) (r : OX7) (x1 : Int32) (x2 : Int32) : Prop := ∃ (res : (Nat ⊕ Int32) × OX6) (res2 : Int32 × OX7), fX6_neighbours o x1 (bz x2) = some res ∧ fX7_neighbours r x1 (bz x2) = some res2 ∧ (∀ k, res.1 = .inl k → k = 2) ∧ q7_thrown (mh_neighbours r res2.2) = hcd [2] res.1 ∧ (∀ v, res.1 = .inr v → res2.1 = v) ∧ Rel (mg_neighbours o res.2) (mh_neighbours r res2.2)
def SK_42 (Rel : OX6 → OX7 → Prop) (o : OX6) (r : OX7) (x1 : Int32) (x2 : Int32) (x3 : Int32) : Prop := ∃ (res : (Nat ⊕ Int32) × OX6) (res2 : Int32 × OX7), fX6_distance o x1 x2 (bz x3) = some res ∧ fX7_distance r x1 x2 (bz x3) = some res2 ∧ (∀ k, res.1 = .inl k → k = 2) ∧ q7_thrown (mh_distance r res2.2) = hcd [2] res.1 ∧ (∀ v, res.1 = .inr v → res2.1 = v) ∧ Rel (mg_distance o res.2) (mh_distance r res2.2)
def SK_43 (Rel : OX6 → OX7 → Prop) (o : OX6) (r : OX7) (x1 : Int32) (x2 : Int32) (x3 : Int32) : Prop := ∃ (res : (Nat ⊕ Int32) × OX6) (res2 : Int32 × OX7), fX6_step o x1 x2 (bz x3) = some res ∧ fX7_step_ r x1 x2 (bz x3) = some res2 ∧ (∀ k, res.1 = .inl k → k = 2 ∨ k = 3) ∧ q7_thrown (mh_step r res2.2) = hcd [2, 3] res.1 ∧ (∀ v, res.1 = .inr v → res2.1 = v) ∧ Rel (mg_step o res.2) (mh_step r res2.2)
def SK_44 (Rel : OX6 → OX7 → Prop) (o : OX6) (r : OX7) (x1 : Int32) : Prop := ∃ (res : (Nat ⊕ Int32) × OX6) (res2 : Int32 × OX7), fX6_diameter o (bz x1) = some res ∧ fX7_diameter r (bz x1) = some res2 ∧ (∀ k, res.1 = .inl k → k = 3) ∧ q7_thrown (mh_diameter r res2.2) = hcd [3] res.1 ∧ (∀ v, res.1 = .inr v → res2.1 = v) ∧ Rel (mg_diameter o res.2) (mh_diameter r res2.2)
def SK_45 (Rel : OX6 → OX7 → Prop) (o : OX6) (r : OX7) : Prop := ∃ (res : Int32 × OX6) (res2 : Int32 × OX7), fX6_automorphisms o = some res ∧ fX7_automorphisms r = some res2 ∧ res.1 = res2.1 ∧ Rel (mg_automorphisms o res.2) (mh_automorphisms r res2.2)
def SK_46 (Rel : OX6 → OX7 → Prop) (o : OX6) (r : OX7) (x1 : Int32) : Prop := ∃ (res : (Nat ⊕ Int32) × OX6) (res2 : Int32 × OX7), fX6_orbit o x1 = some res ∧ fX7_orbit r x1 = some res2 ∧ (∀ k, res.1 = .inl k → k = 2) ∧ q7_thrown (mh_orbit r res2.2) = hcd [2] res.1 ∧ (∀ v, res.1 = .inr v → res2.1 = v) ∧ Rel (mg_orbit o res.2) (mh_orbit r res2.2)
def SK_47 (Rel : OX6 → OX7 → Prop) (o : OX6) (r : OX7) : Prop := ∃ (res : (Nat ⊕ Int32) × OX6) (res2 : Int32 × OX7), fX6_isLike o = some res ∧ fX7_isLike r = some res2 ∧ (∀ k, res.1 = .inl k → k = 0) ∧ q7_thrown (mh_isLike r res2.2) = hcd [0] res.1 ∧ (∀ v, res.1 = .inr v → res2.1 = v) ∧ Rel (mg_isLike o res.2) (mh_isLike r res2.2)
def SK_48 (Rel : OX6 → OX7 → Prop) (o : OX6) (r : OX7) (x1 : Int32) : Prop := ∃ (res : (Nat ⊕ Int32) × OX6) (res2 : Int32 × OX7), fX6_image o x1 = some res ∧ fX7_image r x1 = some res2 ∧ (∀ k, res.1 = .inl k → k = 2 ∨ k = 0 ∨ k = 3) ∧ q7_thrown (mh_image r res2.2) = hcd [2, 0, 3] res.1 ∧ (∀ v, res.1 = .inr v → res2.1 = v) ∧ Rel (mg_image o res.2) (mh_image r res2.2)
def SKall (Rel : OX6 → OX7 → Prop) (o : OX6) (r : OX7) : Prop := (∀ x1 x2 x3 x4 x5, SK_0 Rel o r x1 x2 x3 x4 x5) ∧ (∀ x1, SK_1 Rel o r x1) ∧ (SK_2 Rel o r) ∧ (SK_3 Rel o r) ∧ (∀ x1 x2 x3, SK_4 Rel o r x1 x2 x3) ∧ (∀ x1, SK_5 Rel o r x1) ∧ (∀ x1, SK_6 Rel o r x1) ∧ (SK_7 Rel o r) ∧ (SK_8 Rel o r) ∧ (∀ x1, SK_9 Rel o r x1) ∧ (∀ x1, SK_10 Rel o r x1) ∧ (∀ x1, SK_11 Rel o r x1) ∧ (∀ x1, SK_12 Rel o r x1) ∧ (SK_13 Rel o r) ∧ (SK_14 Rel o r) ∧ (SK_15 Rel o r) ∧ (SK_16 Rel o r) ∧ (SK_17 Rel o r) ∧ (SK_18 Rel o r) ∧ (∀ x1, SK_19 Rel o r x1) ∧ (∀ x1, SK_20 Rel o r x1) ∧ (∀ x1, SK_21 Rel o r x1) ∧ (SK_22 Rel o r) ∧ (∀ x1, SK_23 Rel o r x1) ∧ (∀ x1, SK_24 Rel o r x1) ∧ (∀ x1, SK_25 Rel o r x1) ∧ (SK_26 Rel o r) ∧ (∀ x1, SK_27 Rel o r x1) ∧ (∀ x1 x2, SK_28 Rel o r x1 x2) ∧ (∀ x1 x2 x3, SK_29 Rel o r x1 x2 x3) ∧ (∀ x1 x2, SK_30 Rel o r x1 x2) ∧ (∀ x1 x2, SK_31 Rel o r x1 x2) ∧ (∀ x1 x2, SK_32 Rel o r x1 x2) ∧ (∀ x1 x2, SK_33 Rel o r x1 x2) ∧ (∀ x1 x2, SK_34 Rel o r x1 x2) ∧ (SK_35 Rel o r) ∧ (SK_36 Rel o r) ∧ (SK_37 Rel o r) ∧ (SK_38 Rel o r) ∧ (SK_39 Rel o r) ∧ (SK_40 Rel o r) ∧ (∀ x1 x2, SK_41 Rel o r x1 x2) ∧ (∀ x1 x2 x3, SK_42 Rel o r x1 x2 x3) ∧ (∀ x1 x2 x3, SK_43 Rel o r x1 x2 x3) ∧ (∀ x1, SK_44 Rel o r x1) ∧ (SK_45 Rel o r) ∧ (∀ x1, SK_46 Rel o r x1) ∧ (SK_47 Rel o r) ∧ (∀ x1, SK_48 Rel o r x1)
set_option maxRecDepth 100000 in
set_option maxHeartbeats 4000000 in
theorem law_round {Rel : OX6 → OX7 → Prop} {n : Nat} {p : Program} {l : Launch} {e : Env} {s : State} {m : MethodId} {below : List Frame} {meth : Method} {c : Code} {Z : GZ} {Y : YZ} {A : Nat → Prop} {Q : State → Prop} {cells slots b L q : Nat} {xs : Nat → Int32} {i : Int32} {a b2 : Nat → Nat} {o : OX6} {r : OX7} {g : Nat → Int64} (C : Cx p s m #[.ref b] c code 7 RL Z A) (hX : XT Y A s s.heap) (hN : XNo s) (hst : l.stackTraces = false) (hSc : va_X b L xs s s.heap) (hbl : b < s.heap.size) (hbA : ¬ A b) (hR1 : cells + 3 ≤ room_1.cells) (hR2 : slots + 18 ≤ room_1.slots) (hi : i = nI (6 * n)) (hn : 6 * n + 6 ≤ L) (hL : L ≤ 3072) (hr : Rel o r) (hS : SKall Rel o r) (K : ∀ (o' : OX6) (r' : OX7) (g' : Nat → Int64), Rel o' r' → Gw p l e room_1 s m #[.ref b] below meth c 7 Z A Q (cells + 3) (slots + 18) (2645) [(0, .ref b), (1, .ref (a 0)), (2, .ref (b2 0)), (3, .ref q), (4, .int i)] [] (WS Z a b2 q o' r' g')) : Gw p l e room_1 s m #[.ref b] below meth c 7 Z A Q (cells) (slots) (33) [(0, .ref b), (1, .ref (a 0)), (2, .ref (b2 0)), (3, .ref q), (4, .int i)] [] (WS Z a b2 q o r g) := by
  have hin : ∀ j, j < 6 → vp_in (nI (6 * n + j)) L := fun j hj => vp_in_nI (by omega) (by omega)
  have h1 : vp_in (i + 1) L := by rw [hi]; rw [show (1 : Int32) = nI 1 from rfl, nI_add]; exact hin 1 (by decide)
  have h2 : vp_in (i + 2) L := by rw [hi]; rw [show (2 : Int32) = nI 2 from rfl, nI_add]; exact hin 2 (by decide)
  have h3 : vp_in (i + 3) L := by rw [hi]; rw [show (3 : Int32) = nI 3 from rfl, nI_add]; exact hin 3 (by decide)
  have h4 : vp_in (i + 4) L := by rw [hi]; rw [show (4 : Int32) = nI 4 from rfl, nI_add]; exact hin 4 (by decide)
  have h5 : vp_in (i + 5) L := by rw [hi]; rw [show (5 : Int32) = nI 5 from rfl, nI_add]; exact hin 5 (by decide)
  have h0 : vp_in i L := by rw [hi]; exact hin 0 (by decide)
  refine g_aload_n C dL_law_33 rfl 0 rfl ?_
  refine g_iload C dL_law_34 4 rfl ?_
  refine g_sld C hSc hbl hbA h0 dL_law_36 ?_
  refine g_bipush C 63 dL_law_37 (by decide) ?_
  refine g_iand C dL_law_39 ?_
  obtain ⟨w, hw, hwx⟩ := and63 (xs (ix i))
  rw [hwx]
  obtain ⟨s0, s1, s2, s3, s4, s5, s6, s7, s8, s9, s10, s11, s12, s13, s14, s15, s16, s17, s18, s19, s20, s21, s22, s23, s24, s25, s26, s27, s28, s29, s30, s31, s32, s33, s34, s35, s36, s37, s38, s39, s40, s41, s42, s43, s44, s45, s46, s47, s48⟩ := hS
  match w, hw with
  | 0, _ =>
    refine g_tableIn C 252 dL_law_40 (nI 0) rfl (by decide) (by decide) rfl (by decide) ?_
    obtain ⟨res, res2, H1, H2, Hk, H3, H4, H5⟩ := s0 (xs (ix (i + 1))) (xs (ix (i + 2))) (xs (ix (i + 3))) (xs (ix (i + 4))) (xs (ix (i + 5)))
    exact lc_0 C hX hN hst hSc hbl hbA hR1 hR2 h1 h2 h3 h4 h5 H1 H2 Hk H3 H4 (K _ _ _ H5)
  | 1, _ =>
    refine g_tableIn C 356 dL_law_40 (nI 1) rfl (by decide) (by decide) rfl (by decide) ?_
    obtain ⟨res, res2, H1, H2, Hk, H3, H4, H5⟩ := s1 (xs (ix (i + 1)))
    exact lc_1 C hX hN hst hSc hbl hbA hR1 hR2 h1 H1 H2 Hk H3 H4 (K _ _ _ H5)
  | 2, _ =>
    refine g_tableIn C 412 dL_law_40 (nI 2) rfl (by decide) (by decide) rfl (by decide) ?_
    obtain ⟨res, res2, H1, H2, H3, H5⟩ := s2 
    exact lc_2 C hX hN hst hSc hbl hbA hR1 hR2  H1 H2 H3 (K _ _ _ H5)
  | 3, _ =>
    refine g_tableIn C 425 dL_law_40 (nI 3) rfl (by decide) (by decide) rfl (by decide) ?_
    obtain ⟨res, res2, H1, H2, Hk, H3, H4, H5⟩ := s3 
    exact lc_3 C hX hN hst hSc hbl hbA hR1 hR2  H1 H2 Hk H3 H4 (K _ _ _ H5)
  | 4, _ =>
    refine g_tableIn C 469 dL_law_40 (nI 4) rfl (by decide) (by decide) rfl (by decide) ?_
    obtain ⟨res, res2, H1, H2, Hk, H3, H4, H5⟩ := s4 (xs (ix (i + 1))) (xs (ix (i + 2))) (xs (ix (i + 3)))
    exact lc_4 C hX hN hst hSc hbl hbA hR1 hR2 h1 h2 h3 H1 H2 Hk H3 H4 (K _ _ _ H5)
  | 5, _ =>
    refine g_tableIn C 572 dL_law_40 (nI 5) rfl (by decide) (by decide) rfl (by decide) ?_
    obtain ⟨res, res2, H1, H2, Hk, H3, H4, H5⟩ := s5 (xs (ix (i + 1)))
    exact lc_5 C hX hN hst hSc hbl hbA hR1 hR2 h1 H1 H2 Hk H3 H4 (K _ _ _ H5)
  | 6, _ =>
    refine g_tableIn C 628 dL_law_40 (nI 6) rfl (by decide) (by decide) rfl (by decide) ?_
    obtain ⟨res, res2, H1, H2, Hk, H3, H4, H5⟩ := s6 (xs (ix (i + 1)))
    exact lc_6 C hX hN hst hSc hbl hbA hR1 hR2 h1 H1 H2 Hk H3 H4 (K _ _ _ H5)
  | 7, _ =>
    refine g_tableIn C 684 dL_law_40 (nI 7) rfl (by decide) (by decide) rfl (by decide) ?_
    obtain ⟨res, res2, H1, H2, Hk, H3, H4, H5⟩ := s7 
    exact lc_7 C hX hN hst hSc hbl hbA hR1 hR2  H1 H2 Hk H3 H4 (K _ _ _ H5)
  | 8, _ =>
    refine g_tableIn C 728 dL_law_40 (nI 8) rfl (by decide) (by decide) rfl (by decide) ?_
    obtain ⟨res, res2, H1, H2, Hk, H3, H4, H5⟩ := s8 
    exact lc_8 C hX hN hst hSc hbl hbA hR1 hR2  H1 H2 Hk H3 H4 (K _ _ _ H5)
  | 9, _ =>
    refine g_tableIn C 772 dL_law_40 (nI 9) rfl (by decide) (by decide) rfl (by decide) ?_
    obtain ⟨res, res2, H1, H2, Hk, H3, H4, H5⟩ := s9 (xs (ix (i + 1)))
    exact lc_9 C hX hN hst hSc hbl hbA hR1 hR2 h1 H1 H2 Hk H3 H4 (K _ _ _ H5)
  | 10, _ =>
    refine g_tableIn C 828 dL_law_40 (nI 10) rfl (by decide) (by decide) rfl (by decide) ?_
    obtain ⟨res, res2, H1, H2, Hk, H3, H4, H5⟩ := s10 (xs (ix (i + 1)))
    exact lc_10 C hX hN hst hSc hbl hbA hR1 hR2 h1 H1 H2 Hk H3 H4 (K _ _ _ H5)
  | 11, _ =>
    refine g_tableIn C 884 dL_law_40 (nI 11) rfl (by decide) (by decide) rfl (by decide) ?_
    obtain ⟨res, res2, H1, H2, Hk, H3, H4, H5⟩ := s11 (xs (ix (i + 1)))
    exact lc_11 C hX hN hst hSc hbl hbA hR1 hR2 h1 H1 H2 Hk H3 H4 (K _ _ _ H5)
  | 12, _ =>
    refine g_tableIn C 940 dL_law_40 (nI 12) rfl (by decide) (by decide) rfl (by decide) ?_
    obtain ⟨res, res2, H1, H2, Hk, H3, H4, H5⟩ := s12 (xs (ix (i + 1)))
    exact lc_12 C hX hN hst hSc hbl hbA hR1 hR2 h1 H1 H2 Hk H3 H4 (K _ _ _ H5)
  | 13, _ =>
    refine g_tableIn C 996 dL_law_40 (nI 13) rfl (by decide) (by decide) rfl (by decide) ?_
    obtain ⟨res, res2, H1, H2, Hk, H3, H4, H5⟩ := s13 
    exact lc_13 C hX hN hst hSc hbl hbA hR1 hR2  H1 H2 Hk H3 H4 (K _ _ _ H5)
  | 14, _ =>
    refine g_tableIn C 1040 dL_law_40 (nI 14) rfl (by decide) (by decide) rfl (by decide) ?_
    obtain ⟨res, res2, H1, H2, H3, H5⟩ := s14 
    exact lc_14 C hX hN hst hSc hbl hbA hR1 hR2  H1 H2 H3 (K _ _ _ H5)
  | 15, _ =>
    refine g_tableIn C 1053 dL_law_40 (nI 15) rfl (by decide) (by decide) rfl (by decide) ?_
    obtain ⟨res, res2, H1, H2, H3, H5⟩ := s15 
    exact lc_15 C hX hN hst hSc hbl hbA hR1 hR2  H1 H2 H3 (K _ _ _ H5)
  | 16, _ =>
    refine g_tableIn C 1066 dL_law_40 (nI 16) rfl (by decide) (by decide) rfl (by decide) ?_
    obtain ⟨res, res2, H1, H2, Hk, H3, H4, H5⟩ := s16 
    exact lc_16 C hX hN hst hSc hbl hbA hR1 hR2  H1 H2 Hk H3 H4 (K _ _ _ H5)
  | 17, _ =>
    refine g_tableIn C 1110 dL_law_40 (nI 17) rfl (by decide) (by decide) rfl (by decide) ?_
    obtain ⟨res, res2, H1, H2, H3, H5⟩ := s17 
    exact lc_17 C hX hN hst hSc hbl hbA hR1 hR2  H1 H2 H3 (K _ _ _ H5)
  | 18, _ =>
    refine g_tableIn C 1123 dL_law_40 (nI 18) rfl (by decide) (by decide) rfl (by decide) ?_
    obtain ⟨res, res2, H1, H2, H3, H5⟩ := s18 
    exact lc_18 C hX hN hst hSc hbl hbA hR1 hR2  H1 H2 H3 (K _ _ _ H5)
  | 19, _ =>
    refine g_tableIn C 1136 dL_law_40 (nI 19) rfl (by decide) (by decide) rfl (by decide) ?_
    obtain ⟨res, res2, H1, H2, Hk, H3, H4, H5⟩ := s19 (xs (ix (i + 1)))
    exact lc_19 C hX hN hst hSc hbl hbA hR1 hR2 h1 H1 H2 Hk H3 H4 (K _ _ _ H5)
  | 20, _ =>
    refine g_tableIn C 1192 dL_law_40 (nI 20) rfl (by decide) (by decide) rfl (by decide) ?_
    obtain ⟨res, res2, H1, H2, Hk, H3, H4, H5⟩ := s20 (xs (ix (i + 1)))
    exact lc_20 C hX hN hst hSc hbl hbA hR1 hR2 h1 H1 H2 Hk H3 H4 (K _ _ _ H5)
  | 21, _ =>
    refine g_tableIn C 1248 dL_law_40 (nI 21) rfl (by decide) (by decide) rfl (by decide) ?_
    obtain ⟨res, res2, H1, H2, Hk, H3, H4, H5⟩ := s21 (xs (ix (i + 1)))
    exact lc_21 C hX hN hst hSc hbl hbA hR1 hR2 h1 H1 H2 Hk H3 H4 (K _ _ _ H5)
  | 22, _ =>
    refine g_tableIn C 1304 dL_law_40 (nI 22) rfl (by decide) (by decide) rfl (by decide) ?_
    obtain ⟨res, res2, H1, H2, H3, H5⟩ := s22 
    exact lc_22 C hX hN hst hSc hbl hbA hR1 hR2  H1 H2 H3 (K _ _ _ H5)
  | 23, _ =>
    refine g_tableIn C 1317 dL_law_40 (nI 23) rfl (by decide) (by decide) rfl (by decide) ?_
    obtain ⟨res, res2, H1, H2, Hk, H3, H4, H5⟩ := s23 (xs (ix (i + 1)))
    exact lc_23 C hX hN hst hSc hbl hbA hR1 hR2 h1 H1 H2 Hk H3 H4 (K _ _ _ H5)
  | 24, _ =>
    refine g_tableIn C 1373 dL_law_40 (nI 24) rfl (by decide) (by decide) rfl (by decide) ?_
    obtain ⟨res, res2, H1, H2, H3, H5⟩ := s24 (xs (ix (i + 1)))
    exact lc_24 C hX hN hst hSc hbl hbA hR1 hR2 h1 H1 H2 H3 (K _ _ _ H5)
  | 25, _ =>
    refine g_tableIn C 1398 dL_law_40 (nI 25) rfl (by decide) (by decide) rfl (by decide) ?_
    obtain ⟨res, res2, H1, H2, Hk, H3, H4, H5⟩ := s25 (xs (ix (i + 1)))
    exact lc_25 C hX hN hst hSc hbl hbA hR1 hR2 h1 H1 H2 Hk H3 H4 (K _ _ _ H5)
  | 26, _ =>
    refine g_tableIn C 1454 dL_law_40 (nI 26) rfl (by decide) (by decide) rfl (by decide) ?_
    obtain ⟨res, res2, H1, H2, H3, H5⟩ := s26 
    exact lc_26 C hX hN hst hSc hbl hbA hR1 hR2  H1 H2 H3 (K _ _ _ H5)
  | 27, _ =>
    refine g_tableIn C 1467 dL_law_40 (nI 27) rfl (by decide) (by decide) rfl (by decide) ?_
    obtain ⟨res, res2, H1, H2, Hk, H3, H4, H5⟩ := s27 (xs (ix (i + 1)))
    exact lc_27 C hX hN hst hSc hbl hbA hR1 hR2 h1 H1 H2 Hk H3 H4 (K _ _ _ H5)
  | 28, _ =>
    refine g_tableIn C 1523 dL_law_40 (nI 28) rfl (by decide) (by decide) rfl (by decide) ?_
    obtain ⟨res, res2, H1, H2, Hk, H3, H4, H5⟩ := s28 (xs (ix (i + 1))) (xs (ix (i + 2)))
    exact lc_28 C hX hN hst hSc hbl hbA hR1 hR2 h1 h2 H1 H2 Hk H3 H4 (K _ _ _ H5)
  | 29, _ =>
    refine g_tableIn C 1607 dL_law_40 (nI 29) rfl (by decide) (by decide) rfl (by decide) ?_
    obtain ⟨res, res2, H1, H2, Hk, H3, H4, H5⟩ := s29 (xs (ix (i + 1))) (xs (ix (i + 2))) (xs (ix (i + 3)))
    exact lc_29 C hX hN hst hSc hbl hbA hR1 hR2 h1 h2 h3 H1 H2 Hk H3 H4 (K _ _ _ H5)
  | 30, _ =>
    refine g_tableIn C 1703 dL_law_40 (nI 30) rfl (by decide) (by decide) rfl (by decide) ?_
    obtain ⟨res, res2, H1, H2, Hk, H3, H4, H5⟩ := s30 (xs (ix (i + 1))) (xs (ix (i + 2)))
    exact lc_30 C hX hN hst hSc hbl hbA hR1 hR2 h1 h2 H1 H2 Hk H3 H4 (K _ _ _ H5)
  | 31, _ =>
    refine g_tableIn C 1771 dL_law_40 (nI 31) rfl (by decide) (by decide) rfl (by decide) ?_
    obtain ⟨res, res2, H1, H2, Hk, H3, H4, H5⟩ := s31 (xs (ix (i + 1))) (xs (ix (i + 2)))
    exact lc_31 C hX hN hst hSc hbl hbA hR1 hR2 h1 h2 H1 H2 Hk H3 H4 (K _ _ _ H5)
  | 32, _ =>
    refine g_tableIn C 1839 dL_law_40 (nI 32) rfl (by decide) (by decide) rfl (by decide) ?_
    obtain ⟨res, res2, H1, H2, Hk, H3, H4, H5⟩ := s32 (xs (ix (i + 1))) (xs (ix (i + 2)))
    exact lc_32 C hX hN hst hSc hbl hbA hR1 hR2 h1 h2 H1 H2 Hk H3 H4 (K _ _ _ H5)
  | 33, _ =>
    refine g_tableIn C 1907 dL_law_40 (nI 33) rfl (by decide) (by decide) rfl (by decide) ?_
    obtain ⟨res, res2, H1, H2, Hk, H3, H4, H5⟩ := s33 (xs (ix (i + 1))) (xs (ix (i + 2)))
    exact lc_33 C hX hN hst hSc hbl hbA hR1 hR2 h1 h2 H1 H2 Hk H3 H4 (K _ _ _ H5)
  | 34, _ =>
    refine g_tableIn C 1975 dL_law_40 (nI 34) rfl (by decide) (by decide) rfl (by decide) ?_
    obtain ⟨res, res2, H1, H2, Hk, H3, H4, H5⟩ := s34 (xs (ix (i + 1))) (xs (ix (i + 2)))
    exact lc_34 C hX hN hst hSc hbl hbA hR1 hR2 h1 h2 H1 H2 Hk H3 H4 (K _ _ _ H5)
  | 35, _ =>
    refine g_tableIn C 2043 dL_law_40 (nI 35) rfl (by decide) (by decide) rfl (by decide) ?_
    obtain ⟨res, res2, H1, H2, H3, H5⟩ := s35 
    exact lc_35 C hX hN hst hSc hbl hbA hR1 hR2  H1 H2 H3 (K _ _ _ H5)
  | 36, _ =>
    refine g_tableIn C 2056 dL_law_40 (nI 36) rfl (by decide) (by decide) rfl (by decide) ?_
    obtain ⟨res, res2, H1, H2, H3, H5⟩ := s36 
    exact lc_36 C hX hN hst hSc hbl hbA hR1 hR2  H1 H2 H3 (K _ _ _ H5)
  | 37, _ =>
    refine g_tableIn C 2069 dL_law_40 (nI 37) rfl (by decide) (by decide) rfl (by decide) ?_
    obtain ⟨res, res2, H1, H2, H3, H5⟩ := s37 
    exact lc_37 C hX hN hst hSc hbl hbA hR1 hR2  H1 H2 H3 (K _ _ _ H5)
  | 38, _ =>
    refine g_tableIn C 2082 dL_law_40 (nI 38) rfl (by decide) (by decide) rfl (by decide) ?_
    obtain ⟨res, res2, H1, H2, H3, H5⟩ := s38 
    exact lc_38 C hX hN hst hSc hbl hbA hR1 hR2  H1 H2 H3 (K _ _ _ H5)
  | 39, _ =>
    refine g_tableIn C 2095 dL_law_40 (nI 39) rfl (by decide) (by decide) rfl (by decide) ?_
    obtain ⟨res, res2, H1, H2, H3, H5⟩ := s39 
    exact lc_39 C hX hN hst hSc hbl hbA hR1 hR2  H1 H2 H3 (K _ _ _ H5)
  | 40, _ =>
    refine g_tableIn C 2108 dL_law_40 (nI 40) rfl (by decide) (by decide) rfl (by decide) ?_
    obtain ⟨res, res2, H1, H2, H3, H5⟩ := s40 
    exact lc_40 C hX hN hst hSc hbl hbA hR1 hR2  H1 H2 H3 (K _ _ _ H5)
  | 41, _ =>
    refine g_tableIn C 2121 dL_law_40 (nI 41) rfl (by decide) (by decide) rfl (by decide) ?_
    obtain ⟨res, res2, H1, H2, Hk, H3, H4, H5⟩ := s41 (xs (ix (i + 1))) (xs (ix (i + 2)))
    exact lc_41 C hX hN hst hSc hbl hbA hR1 hR2 h1 h2 H1 H2 Hk H3 H4 (K _ _ _ H5)
  | 42, _ =>
    refine g_tableIn C 2205 dL_law_40 (nI 42) rfl (by decide) (by decide) rfl (by decide) ?_
    obtain ⟨res, res2, H1, H2, Hk, H3, H4, H5⟩ := s42 (xs (ix (i + 1))) (xs (ix (i + 2))) (xs (ix (i + 3)))
    exact lc_42 C hX hN hst hSc hbl hbA hR1 hR2 h1 h2 h3 H1 H2 Hk H3 H4 (K _ _ _ H5)
  | 43, _ =>
    refine g_tableIn C 2301 dL_law_40 (nI 43) rfl (by decide) (by decide) rfl (by decide) ?_
    obtain ⟨res, res2, H1, H2, Hk, H3, H4, H5⟩ := s43 (xs (ix (i + 1))) (xs (ix (i + 2))) (xs (ix (i + 3)))
    exact lc_43 C hX hN hst hSc hbl hbA hR1 hR2 h1 h2 h3 H1 H2 Hk H3 H4 (K _ _ _ H5)
  | 44, _ =>
    refine g_tableIn C 2397 dL_law_40 (nI 44) rfl (by decide) (by decide) rfl (by decide) ?_
    obtain ⟨res, res2, H1, H2, Hk, H3, H4, H5⟩ := s44 (xs (ix (i + 1)))
    exact lc_44 C hX hN hst hSc hbl hbA hR1 hR2 h1 H1 H2 Hk H3 H4 (K _ _ _ H5)
  | 45, _ =>
    refine g_tableIn C 2469 dL_law_40 (nI 45) rfl (by decide) (by decide) rfl (by decide) ?_
    obtain ⟨res, res2, H1, H2, H3, H5⟩ := s45 
    exact lc_45 C hX hN hst hSc hbl hbA hR1 hR2  H1 H2 H3 (K _ _ _ H5)
  | 46, _ =>
    refine g_tableIn C 2482 dL_law_40 (nI 46) rfl (by decide) (by decide) rfl (by decide) ?_
    obtain ⟨res, res2, H1, H2, Hk, H3, H4, H5⟩ := s46 (xs (ix (i + 1)))
    exact lc_46 C hX hN hst hSc hbl hbA hR1 hR2 h1 H1 H2 Hk H3 H4 (K _ _ _ H5)
  | 47, _ =>
    refine g_tableIn C 2538 dL_law_40 (nI 47) rfl (by decide) (by decide) rfl (by decide) ?_
    obtain ⟨res, res2, H1, H2, Hk, H3, H4, H5⟩ := s47 
    exact lc_47 C hX hN hst hSc hbl hbA hR1 hR2  H1 H2 Hk H3 H4 (K _ _ _ H5)
  | 48, _ =>
    refine g_tableIn C 2589 dL_law_40 (nI 48) rfl (by decide) (by decide) rfl (by decide) ?_
    obtain ⟨res, res2, H1, H2, Hk, H3, H4, H5⟩ := s48 (xs (ix (i + 1)))
    exact lc_48 C hX hN hst hSc hbl hbA hR1 hR2 h1 H1 H2 Hk H3 H4 (K _ _ _ H5)
  | w + 49, hw =>
    have e1 : (nI (w + 49)).toInt = (w + 49 : Nat) := nI_toInt (by omega)
    refine g_tableOut C 2645 dL_law_40 (Or.inr (by rw [e1]; omega)) (by decide) ?_
    exact g_widen (cells + 3) (slots + 18) (by omega) (by omega) (K o r g hr)
set_option maxRecDepth 100000 in
set_option maxHeartbeats 4000000 in
theorem law_loop {Rel : OX6 → OX7 → Prop} (hSK : ∀ o r, Rel o r → SKall Rel o r) {p : Program} {l : Launch} {e : Env} {s : State} {m : MethodId} {below : List Frame} {meth : Method} {c : Code} {Z : GZ} {Y : YZ} {b L q : Nat} {xs : Nat → Int32} {a b2 : Nat → Nat} (hL : L ≤ 3072) (C0 : lw_At p s m meth c b L xs) (hX : XT Y (fun q => s.heap.size ≤ q) s s.heap) (hN : XNo s) (hst : l.stackTraces = false) (C : Cx p s m #[.ref b] c code 7 RL Z (fun q => s.heap.size ≤ q)) :
    ∀ (k n : Nat), L < 6 * (n + k) → 6 * n ≤ L → ∀ (i : Int32), i = nI (6 * n) → ∀ (o : OX6) (r : OX7) (g : Nat → Int64), Rel o r → Gw p l e room_1 s m #[.ref b] below meth c 7 Z (fun q => s.heap.size ≤ q) (lw_Z below #[Value.ref b] s) (100 + 3 * n) (4000 + 18 * n) 23 [(0, .ref b), (1, .ref (a 0)), (2, .ref (b2 0)), (3, .ref q), (4, .int i)] [] (WS Z a b2 q o r g)
  | 0, n, hk, hn, i, hi, o, r, g, hr => by
    refine absurd hk (by omega)
  | k + 1, n, hk, hn, i, hi, o, r, g, hr => by
    obtain ⟨hx, hb, hret, hml, hown, hts, hSc, hbl, hlocks, hgv⟩ := id C0
    have hbA : ¬ (fun q => s.heap.size ≤ q) b := Nat.not_le.mpr hbl
    have hLi : (Int32.ofNat L - 6).toInt = (L : Int) - 6 := by
      rw [Int32.toInt_sub, show (Int32.ofNat L).toInt = (L : Int) from nI_toInt (by omega)]
      show ((L : Int) - 6).bmod (2 ^ 32) = _
      rw [Int.bmod_eq_of_le (by omega) (by omega)]
    have hii : i.toInt = ((6 * n : Nat) : Int) := by rw [hi]; exact nI_toInt (by omega)
    refine g_iload C dL_law_23 4 rfl ?_
    refine g_aload_n C dL_law_25 rfl 0 rfl ?_
    refine g_slen C hSc hbl hbA dL_law_26 ?_
    refine g_bipush C 6 dL_law_27 (by decide) ?_
    refine g_isub C dL_law_29 ?_
    refine g_icmp_gt C 2651 dL_law_30 (by decide) (fun c1 => ?_) (fun c1 => ?_)
    · refine g_iconst C 1 dL_law_2651 (by decide) ?_
      refine g_widen 601024 7293034 (by omega) (by omega) ?_
      exact fun H locs ls hP hD hS hl => va_forget hS.2.2 (lw_ret hx hb hret hlocks dL_law_2652)
    · have hn6 : 6 * n + 6 ≤ L := by
        rw [Int32.lt_iff_toInt_lt, hLi, hii] at c1
        omega
      refine law_round C hX hN hst hSc hbl hbA (by show 100 + 3 * n + 3 ≤ 601024; omega) (by show 4000 + 18 * n + 18 ≤ 7293034; omega) hi hn6 hL hr (hSK o r hr) (fun o' r' g' hr' => ?_)
      refine g_iinc C (i + 6) dL_law_2645 4 rfl rfl (by decide) [(4, .int (i + 6)), (0, .ref b), (1, .ref (a 0)), (2, .ref (b2 0)), (3, .ref q)] rfl ?_
      refine g_goto C 23 dL_law_2648 (by decide) ?_
      refine g_lv [1, 2, 3, 4, 0] [(0, .ref b), (1, .ref (a 0)), (2, .ref (b2 0)), (3, .ref q), (4, .int (i + 6))] rfl ?_
      exact law_loop hSK hL C0 hX hN hst C k (n + 1) (by omega) (by omega) (i + 6) (by rw [hi, show (6 : Int32) = nI 6 from rfl, nI_add]; rfl) o' r' g' hr'
set_option maxRecDepth 100000 in
set_option maxHeartbeats 4000000 in
theorem whole_start_of {Rel : OX6 → OX7 → Prop} (hP1 : ∃ r, fX3_build iX3 iX2 = some r ∧ Rel (iX6 r) iX7) (hSK : ∀ o r, Rel o r → SKall Rel o r) {p : Program} {e : Env} {s : State} {m : MethodId} {below : List Frame} {meth : Method} {c : Code} (l : Launch) (hflags : l.flags = flags0) {b L : Nat} {xs : Nat → Int32} (hL : L ≤ 3072) (C0 : lw_At p s m meth c b L xs) : W p l e room_1 s m #[Value.ref b] below meth c s.heap [] 0 0 (lw_Z below #[Value.ref b] s) (entryFrame m ([Value.ref b] : List Value).toArray 7) := by
  obtain ⟨hx, hb, hret, hml, hown, hts, hSc, hbl, hlocks, hgv⟩ := id C0
  have hst : l.stackTraces = false := by
    show (!l.flags.contains noTraceFlag) = false
    rw [hflags]
    decide +kernel
  obtain ⟨Z, hK⟩ := st_K hts
  obtain ⟨Y, hX⟩ := st_X hts hgv
  have hN := st_N hgv
  have hO := st_O hts
  have C : Cx p s m #[.ref b] c code 7 RL Z (fun q => s.heap.size ≤ q) := ⟨hx, hb, hml, hown, fun w hw => hts w (List.mem_filter.mp hw).1, hK, fun _ h => h⟩
  obtain ⟨r, hr1, hr2⟩ := hP1
  have key : Gw p l e room_1 s m #[.ref b] below meth c 7 Z (fun q => s.heap.size ≤ q) (lw_Z below #[Value.ref b] s) 0 0 0 [(0, .ref b)] [] [] := by
    refine g_new C 6 8 gin6 tyX6 tyX6_ok mw_1_24 mw_1_25 mw_1_1 rfl [.null, .null, .null, .null, .null, .null, .null, .null, .int 0] dfX6 (Nat.le_of_ble_eq_true rfl) (Nat.le_of_ble_eq_true rfl) dL_law_0 (fun q1 => ?_)
    refine g_dup C dL_law_3 rfl ?_
    refine g_ctor C hX hO (kX6_init l Z Y q1 r hr1) myX6_init 129 mw_1_26 [0] [] (wr := []) rfl rfl (by decide) (by decide) (by decide) (Nat.le_of_ble_eq_true rfl) (Nat.le_of_ble_eq_true rfl) (Nat.le_of_ble_eq_true rfl) ⟨Nat.le_of_ble_eq_true rfl, Nat.le_of_ble_eq_true rfl⟩ dL_law_4 (fun w hw => ?_)
    obtain ⟨a, ha, rfl⟩ := hw
    subst ha
    refine g_astore_n C dL_law_7 rfl (by decide) [(1, .ref (a 0)), (0, .ref b)] rfl ?_
    refine g_new C 7 130 gin7 tyX7 tyX7_ok mw_5_79 mw_5_80 mw_1_9 rfl [.int 0, .null, .int 0, .int 0, .int 0, .int 0, .int 0, .int 0, .null, .null, .null, .null, .int 0, .int 0, .null, .null, .null, .null, .int 0, .int 0, .null, .null, .null, .null, .int 0, .int 0, .null, .int 0] dfX7 (Nat.le_of_ble_eq_true rfl) (Nat.le_of_ble_eq_true rfl) dL_law_8 (fun q2 => ?_)
    refine g_dup C dL_law_11 rfl ?_
    refine g_ctor C hX hO (kX7_init l Z Y q2) myX7_init 132 mw_5_81 [45] [0, 1, 2, 3, 4, 5, 6, 7, 8, 9, 10, 11, 12, 13, 14, 15, 16, 17, 18, 19, 20, 21, 22, 23, 24, 25, 26, 27, 28, 29, 30, 31, 32, 33, 34, 35, 36, 37, 38, 39, 40, 41, 42, 43, 44] (wr := wX6 Z a (iX6 r)) rfl rfl (by decide) (by decide) (by decide) (Nat.le_of_ble_eq_true rfl) (Nat.le_of_ble_eq_true rfl) (Nat.le_of_ble_eq_true rfl) ⟨Nat.le_of_ble_eq_true rfl, Nat.le_of_ble_eq_true rfl⟩ dL_law_12 (fun w hw => ?_)
    obtain ⟨b2, hb2, rfl⟩ := hw
    subst hb2
    refine g_astore_n C dL_law_15 rfl (by decide) [(2, .ref (b2 0)), (1, .ref (a 0)), (0, .ref b)] rfl ?_
    refine g_iconst C 1 dL_law_16 (by decide) ?_
    refine g_newJ C mw_1_188 1 (by decide) rfl (Nat.le_of_ble_eq_true rfl) (Nat.le_of_ble_eq_true rfl) (Nat.le_of_ble_eq_true rfl) dL_law_17 (fun q => ?_)
    refine g_astore_n C dL_law_19 rfl (by decide) [(3, .ref q), (2, .ref (b2 0)), (1, .ref (a 0)), (0, .ref b)] rfl ?_
    refine g_iconst C 0 dL_law_20 (by decide) ?_
    refine g_istore C dL_law_21 (by decide) [(4, .int 0), (3, .ref q), (2, .ref (b2 0)), (1, .ref (a 0)), (0, .ref b)] rfl ?_
    refine g_widen 100 4000 (Nat.le_of_ble_eq_true rfl) (Nat.le_of_ble_eq_true rfl) ?_
    refine g_lv [4, 3, 2, 1, 0] [(0, .ref b), (1, .ref (a 0)), (2, .ref (b2 0)), (3, .ref q), (4, .int 0)] rfl ?_
    refine g_ws [0, 1, 2, 3, 4, 5, 6, 7, 8, 9, 10, 11, 12, 13, 14, 15, 16, 17, 18, 19, 20, 21, 22, 23, 24, 25, 26, 27, 28, 29, 30, 31, 32, 33, 34, 35, 36, 37, 38, 39, 40, 41, 42, 43, 44, 60, 45, 46, 47, 48, 49, 50, 51, 52, 53, 54, 55, 56, 57, 58, 59] (WS Z a b2 q (iX6 r) iX7 (fun _ => 0)) rfl (by decide) ?_
    exact law_loop hSK hL C0 hX hN hst C (L + 1) 0 (by omega) (by omega) 0 rfl _ _ _ hr2
  have hl := lv_entry ([.ref b]) (n := 7) (Nat.le_of_ble_eq_true rfl)
  rw [lg_entry_eq]
  exact key s.heap [] _ (fun k q h => by simp at h) ⟨fun i j p q h => by simp at h, fun k q h => by simp at h⟩ va_S.rf hl

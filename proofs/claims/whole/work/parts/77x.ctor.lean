/-! what is thrown: NoSuchElementException's constructor of a text names its superclass's by 13 (the kit's row wants 7): a row of its own -/
def xsC : String := "java/util/NoSuchElementException"
def xsR1 : String := "java/lang/RuntimeException"
def xsR2 : String := "java/lang/Exception"
def xsX : ByteArray := prog_29_method_4_code
theorem xsX_0 : decode xsX 0 = .ok (.aload_n 0, 1) := by decide +kernel
theorem xsX_1 : decode xsX 1 = .ok (.aload_n 1, 1) := by decide +kernel
theorem xsX_2 : decode xsX 2 = .ok (.invokespecial 13, 3) := by decide +kernel
theorem xsX_5 : decode xsX 5 = .ok (.return_, 1) := by decide +kernel
def xsL1 : List Cond := Bundle.throwableAtoms
def xsL2 : List Cond := Bundle.throwableSAtoms
def xsL3 : List Cond := Bundle.passSAtoms xsC xsR1 13 xsX
def xsL4 : List Cond := Bundle.chainSAtoms xsR1 [xsR2]
def xsL5 : List Cond := [.methodLink RX11 145 (Bundle.initS xsC), .instantiable xsC 6, .castable xsC xsC, .selects xsC Bundle.tFill0 Bundle.tFill0, .selects xsC Bundle.tFill Bundle.tFill,
  .lays xsC Bundle.tN "cause" "Ljava/lang/Throwable;", .lays xsC Bundle.tN "stackTrace" Bundle.steD, .lays xsC Bundle.tN "suppressedExceptions" Bundle.listD, .lays xsC Bundle.tN "detailMessage" "Ljava/lang/String;",
  .fieldLink Bundle.tN 198 Bundle.tN "backtrace" "Ljava/lang/Object;", .lays Bundle.tN Bundle.tN "backtrace" "Ljava/lang/Object;", .lays xsC Bundle.tN "backtrace" "Ljava/lang/Object;"]
def xsA : List Cond := xsL1 ++ (xsL2 ++ (xsL3 ++ (xsL4 ++ xsL5)))
theorem xs_i1 {w : Cond} (h : w ∈ xsL1) : w ∈ xsA := List.mem_append_left _ h
theorem xs_i2 {w : Cond} (h : w ∈ xsL2) : w ∈ xsA := List.mem_append_right _ (List.mem_append_left _ h)
theorem xs_i3 {w : Cond} (h : w ∈ xsL3) : w ∈ xsA := List.mem_append_right _ (List.mem_append_right _ (List.mem_append_left _ h))
theorem xs_i4 {w : Cond} (h : w ∈ xsL4) : w ∈ xsA := List.mem_append_right _ (List.mem_append_right _ (List.mem_append_right _ (List.mem_append_left _ h)))
theorem xs_i5 {w : Cond} (h : w ∈ xsL5) : w ∈ xsA := List.mem_append_right _ (List.mem_append_right _ (List.mem_append_right _ (List.mem_append_right _ h)))
section XS
variable {p : Program} {l : Launch} {e : Env} {R : Room} {s : State} {m₀ : MethodId} {args : Array Value} {below : List Frame} {meth : Method} {c : Code} {U0 : State} {locs : List Loc} {cells slots : Nat}
set_option maxHeartbeats 1000000 in
/-- from the call of the constructor on, over a fresh cell: it runs, it is thrown, it leaves -/
theorem xs_ctor (X : Stand p l e R s m₀ args below meth c U0 locs cells slots) (hexec : p.tables.exec = Jvm.exec) (htr : e.platform.stackTraces = false)
    (hown : s.vm.findClass RX11 = some m₀.cls) (h : ∀ w ∈ xsA, w.before args s = true)
    (hUs : (Cond.isRef (.static Bundle.tN "UNASSIGNED_STACK" Bundle.steD)).before args s = true) (hSs : (Cond.isRef (.static Bundle.tN "SUPPRESSED_SENTINEL" Bundle.listD)).before args s = true)
    (hlocs : ∀ x ∈ locs, ∀ cell, s.heap[x.base]? = some cell → cell.vm.isStatics = false)
    {a : Addr} {cX : ClassId} {kX : Class} (hfX : s.vm.findClass xsC = some cX) (hkX : s.vm.classes[cX]? = some kX) (hcell : U0.heap[a]? = some (freshCell cX kX)) (hnew : s.heap.size ≤ a)
    {msg : Value} (hmsg : msg.isRef = true)
    {g : JFrame} (hg : g.method = m₀) (hsize : g.locals.size = c.maxLocals) (hlocked : g.locked = none) (hentered : g.entered = []) {rest : List Value} (hstack : g.stack = msg :: .ref a :: .ref a :: rest)
    (hd6 : decode c.code g.pc = .ok (.invokespecial 145, 3)) (hd9 : decode c.code (g.pc + 3) = .ok (.athrow, 1)) (hout : ∀ x ∈ c.exceptionTable.toList, covers x (g.pc + 3) = false)
    (hRf : 5 < R.frames) (hRl : 2 * g.monitorRoom + ((Value.ref a :: rest).map fun v => v.category).sum + 81 ≤ R.locals) (hlocks : meth.locks = false) :
    ∃ U : State, Steps p.tables e below (U0.setTop g) U ∧ U.status = .running ∧ Ended U below (.threw a) ∧ s.WarmedH U.vm ∧ s.sameButNew ({ U with vm := s.vm } : State) locs cells slots ∧ ∃ ce, U.heap[a]? = some ce ∧ ce.vm = .none ∧ s.vm.findClass xsC = some ce.cls := by
  have pOwn : e.platform.frameOwnsMonitors = true := by rw [X.admits.platform]
  have pFin : e.platform.finalization = false := by rw [X.admits.platform]
  have pMag : e.platform.magicAccessors = ({} : Platform).magicAccessors := by rw [X.admits.platform]
  have w5 : ∀ w, w ∈ xsL5 → w.holds args s none s [] = true := fun w hw => h w (xs_i5 hw)
  -- Throwable's own parts, and the links of the three constructors below it
  obtain ⟨T, Z0, LT, -, Y⟩ := ThrowableC.of_atoms (args := args) pOwn pFin pMag (fun w hw => h w (xs_i1 hw))
  obtain ⟨Z, M, LZ, LM, nZ⟩ := Init0T.ofS_atoms (args := args) pMag LT Y (fun w hw => h w (xs_i2 hw))
  obtain ⟨P1, L1, n1, sup1⟩ := PassC.ofS_atoms (args := args) (s := s) pMag (X := xsC) (Y := xsR1) (by decide) (by decide) xsX_0 xsX_1 xsX_2 xsX_5 (fun w hw => h w (xs_i3 hw))
  obtain ⟨P2, Ps, len2, L2, LPs, n2, sup2, pass2⟩ := Bundle.chainS (args := args) pMag nZ [xsR2] xsR1 (by decide) (by decide) (fun w hw => h w (xs_i4 hw))
  have hsup : P1.sup = P2.m := Option.some.inj (sup1.symm.trans n2)
  have hfP : s.vm.findClass xsC = some P1.m.cls := findClass_of_methodNamed n1
  cases Option.some.inj (hfX.symm.trans hfP)
  obtain ⟨c1, kX', hc1, hk, hord, -, -, -⟩ := Cond.instantiable_spec (w5 (.instantiable xsC 6) (by simp [xsL5]))
  cases Option.some.inj (hc1.symm.trans hfP)
  cases Option.some.inj (hkX.symm.trans hk)
  have sel0 : selectMethod e.platform s.vm P1.m.cls T.fill0 = .method T.fill0 := by
    obtain ⟨c2, r2, m2, q1, q2, q3, q4, -⟩ := Cond.selects_spec (w5 (.selects xsC Bundle.tFill0 Bundle.tFill0) (by simp [xsL5]))
    cases Option.some.inj (q1.symm.trans hfP)
    cases Option.some.inj (q2.symm.trans (State.methodFound?_of_named Y.fill0 (by decide)))
    cases Option.some.inj (q3.symm.trans Y.fill0)
    rw [Launch.admits_selectMethod X.admits]; exact q4
  have selF : selectMethod e.platform s.vm P1.m.cls T.fill = .method T.fill := by
    obtain ⟨c2, r2, m2, q1, q2, q3, q4, -⟩ := Cond.selects_spec (w5 (.selects xsC Bundle.tFill Bundle.tFill) (by simp [xsL5]))
    cases Option.some.inj (q1.symm.trans hfP)
    cases Option.some.inj (q2.symm.trans (State.methodFound?_of_named Y.fill (by decide)))
    cases Option.some.inj (q3.symm.trans Y.fill)
    rw [Launch.admits_selectMethod X.admits]; exact q4
  -- the two statics that it reads
  obtain ⟨cs0, hcs0, iss⟩ := Y.statics
  obtain ⟨u0, hu0⟩ := Cond.staticRefV Y.unassigned LT.unassignedStatic LT.statics hcs0 iss hUs
  obtain ⟨sen, hsen⟩ := Cond.staticRefV Y.sentinel LT.sentinelStatic LT.statics hcs0 iss hSs
  obtain ⟨cs, hcs', hvs, -, keep⟩ := X.same.2.2.2.2.2 T.aS cs0 hcs0
  have hcs : U0.heap[T.aS]? = some cs := hcs'
  have away : ∀ i, (⟨T.aS, i⟩ : Loc) ∉ locs := fun i hi => by
    have := hlocs _ hi cs0 hcs0
    rw [iss] at this; cases this
  have known : cs.vm ≠ .unknown := by
    rw [hvs]; intro hu
    rw [show cs0.vm = .unknown from hu] at iss
    cases iss
  have apart : T.aS ≠ a := Nat.ne_of_lt (Nat.lt_of_lt_of_le (Array.getElem?_eq_some_iff.mp hcs0).1 hnew)
  -- the fields that it writes
  obtain ⟨b1, b2, fB, hb1, hb2, hb3, hb4, -, nB, tB, ffB⟩ := Cond.ownField (t := .object "java/lang/Object") Y.found LT.cls (by decide +kernel) (w5 (.fieldLink Bundle.tN 198 Bundle.tN "backtrace" "Ljava/lang/Object;") (by simp [xsL5])) (w5 (.lays Bundle.tN Bundle.tN "backtrace" "Ljava/lang/Object;") (by simp [xsL5])) e.platform pMag
  obtain ⟨iM, ffM⟩ := Y.msg
  obtain ⟨yC, dC, eC, mC⟩ := Cond.laysAt hfP hk Y.cause (w5 (.lays xsC Bundle.tN "cause" "Ljava/lang/Throwable;") (by simp [xsL5]))
  obtain ⟨yS, dS, eS, mS⟩ := Cond.laysAt hfP hk Y.stack (w5 (.lays xsC Bundle.tN "stackTrace" Bundle.steD) (by simp [xsL5]))
  obtain ⟨yP, dP, eP, mP⟩ := Cond.laysAt hfP hk Y.supp (w5 (.lays xsC Bundle.tN "suppressedExceptions" Bundle.listD) (by simp [xsL5]))
  obtain ⟨yM, dM, eM, mM⟩ := Cond.laysAt hfP hk ffM (w5 (.lays xsC Bundle.tN "detailMessage" "Ljava/lang/String;") (by simp [xsL5]))
  obtain ⟨yB, dB, eB, mB⟩ := Cond.laysAt hfP hk ffB (w5 (.lays xsC Bundle.tN "backtrace" "Ljava/lang/Object;") (by simp [xsL5]))
  have bC := Cond.laysApart eB eC mB mC (by rw [nB, Y.causeName]; decide)
  have bS := Cond.laysApart eB eS mB mS (by rw [nB, Y.stackName]; decide)
  have bP := Cond.laysApart eB eP mB mP (by rw [nB, Y.suppName]; decide)
  have skip : SkipFacts T e.platform s (fun u => u) u0 ((preparedCellV T.toThrowableT (freshCell P1.m.cls kX) a u0 sen).withEntry U0.cur) :=
    ⟨{ ci198 := b1, i198 := b2, fBack := fB }, ⟨hb1, hb2, hb3, hb4⟩, by
      have := fresh_default (c := P1.m.cls) yB
      rw [tB] at this
      simpa [preparedCellV, Cell.setSlot, Cell.withEntry, Array.getElem?_setIfInBounds, bC, bS, bP, bC.symm, bS.symm, bP.symm, defaultValue] using this, fun _ _ => rfl⟩
  -- the call, the constructors, the throw
  obtain ⟨tm, methC, cdC, kC, vm₁, nC, -, -, -, -, -, -, -, hW₁, st1⟩ := Steps.initColdS (tb := p.tables) (e := e) (below := below) (s := s) (U := U0) X.here hexec X.warmed pMag hown (t := Bundle.initS xsC) rfl rfl (Bundle.fit_spec (n := xsC) (by decide)).2
    (w5 (.methodLink RX11 145 (Bundle.initS xsC)) (by simp [xsL5])) (h (.instanceMethod (Bundle.initS xsC)) (xs_i3 (by simp [xsL3, Bundle.passSAtoms]))) (bytes := xsX) (maxL := 2) (h (.code (Bundle.initS xsC) xsX 2 none) (xs_i3 (by simp [xsL3, Bundle.passSAtoms])))
    (f := g) hg (a := a) (msg := msg) (rest := .ref a :: rest) hstack hd6
  cases Option.some.inj (nC.symm.trans n1)
  have X₁ := X.noted hW₁
  have hlen : (P1 :: P2 :: Ps).length = 3 := by
    rw [List.length_cons, List.length_cons, len2]; rfl
  obtain ⟨vm₂, X₂, st2⟩ := X₁.ctorMessageOffV hexec (g := { g with stack := .ref a :: rest }) hg hsize T LT Z LZ M LM (P1 :: P2 :: Ps)
    (fun P hP => by
      rcases List.mem_cons.mp hP with rfl | hP
      · exact L1
      · rcases List.mem_cons.mp hP with rfl | hP
        · exact L2
        · exact LPs P hP) ⟨hsup, sup2, pass2⟩ (u0 := u0) (sen := sen) (self := a) hmsg (cell := freshCell P1.m.cls kX) (cellS := cs)
    hcell (fun _ => by simp) (by simp) rfl rfl sel0 selF hcs apart known (by rw [keep _ (away _)]; exact hu0) (by rw [keep _ (away _)]; exact hsen)
    (Takes.of_laid hk hord yC (by rw [Y.causeType]; rfl)) (Takes.of_laid hk hord yS (by rw [Y.stackType]; exact fits_refV_array _ u0)) (Takes.of_laid hk hord yP (by rw [Y.suppType]; exact fits_refV_object _ sen))
    (Takes.of_laid hk hord yM (by rw [Y.msgType]; exact fits_refV_object _ ⟨msg, hmsg⟩)) Y.objLocals skip htr [] hd6
    (by rw [hlen]; omega) (by rw [hlen]; exact hRl)
  obtain ⟨walk, run, ended, hWU, same⟩ := X₂.athrowLeaves hexec (g := { g with stack := .ref a :: rest, pc := g.pc + 3 }) hg hlocked hentered hout (a := a) (rest := rest) rfl hd9 hlocks
  have hlt : a < ((U0.setVm vm₁).setVm vm₂).heap.size := (Array.getElem?_eq_some_iff.mp hcell).1
  have hU := heapAt_setCell_self (s := (U0.setVm vm₁).setVm vm₂) (plainBareV T.toThrowableT (freshCell P1.m.cls kX) a u0 sen msg) hlt
  refine ⟨_, st1 _ (fun acts => ?_), run, ended, hWU, same.weaken (fun y hy hlt' => ?_) (Nat.le_refl _) (Nat.le_refl _), _, hU, rfl, hfP⟩
  · rw [doInvoke_state]
    exact st2 _ walk
  · rcases List.mem_append.mp hy with h1 | h1
    · exact h1
    · exfalso
      have hb : y.base = a := by
        simp only [List.mem_cons, List.not_mem_nil, or_false] at h1
        rcases h1 with rfl | rfl | rfl | rfl | rfl <;> rfl
      rw [hb] at hlt'
      exact Nat.not_lt.mpr hnew hlt'
end XS

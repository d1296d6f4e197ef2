/-! a method that may throw -/
def xsW : List Cond := xsA.filter vx_no
def xsB : List Cond := xsW.filter (fun w => !goodWord w)
theorem xs_face : ∀ w ∈ xsB, w.faceAtom = true ∧ w.onTables = true := by decide +kernel
theorem xs_good : ∀ w ∈ xsW.filter goodWord, w ∈ lw_tbl := by decide +kernel
theorem xs_B : ∀ w ∈ xsB, w ∈ lw_tbl := by decide +kernel
theorem xs_ot : ∀ w ∈ Cond.classLink RX11 141 xsC :: Cond.initialized xsC :: xsW, vx_ot w = true := by decide +kernel
theorem xs_k1 : Cond.classLink RX11 141 xsC ∈ lw_tbl := by decide +kernel
theorem xs_k2 : Cond.initialized xsC ∈ lw_tbl := by decide +kernel
section XT
variable {p : Program} {l : Launch} {e : Env} {R : Room} {s : State} {m : MethodId} {args : Array Value} {below : List Frame} {meth : Method} {c : Code} {H : Heap} {locs : List Loc} {cells slots : Nat} {ls : Array Slot} {rest : List Value} {Qc : Array Value → State → Outcome → State → Prop} {XC : String → State → State → Prop} {free : Addr → Prop}
/-- 'throw new NoSuchElementException("text")': as the kit's row vx_throwS, over xs_ctor -/
theorem xs_throw {cc : ByteArray} {pc : Nat} (hexec : p.tables.exec = Jvm.exec) (hb : c.code = cc) (hl : l.stackTraces = false) {text : String} {is mc ms sa : Nat} {A : Nat → Prop}
    (hown : s.vm.findClass RX11 = some m.cls)
    (hk : (Cond.classLink RX11 141 xsC).before args s = true) (hini : (Cond.initialized xsC).before args s = true) (hstr : vk_R RX11 is text sa s) (hat : ∀ w ∈ xsW, w.before args s = true)
    (hU : vx_Zq Bundle.tN "UNASSIGNED_STACK" Bundle.steD A s s.heap) (hN : vx_Zq Bundle.tN "SUPPRESSED_SENTINEL" Bundle.listD A s s.heap) (hS : va_S A s.heap H locs) (hsize : ls.size = c.maxLocals)
    (d0 : decode cc pc = .ok (.new 141, 3)) (d3 : decode cc (pc + 3) = .ok (.dup, 1)) (d4 : decode cc (pc + 4) = .ok (.ldc is, 2)) (d6 : decode cc (pc + 6) = .ok (.invokespecial 145, 3)) (d9 : decode cc (pc + 9) = .ok (.athrow, 1))
    (hout : ∀ x ∈ c.exceptionTable.toList, covers x (pc + 9) = false)
    (hRframes : 5 < R.frames) (hRlocals : (rest.map fun v => v.category).sum + 82 ≤ R.locals) (hRcells : cells + 1 ≤ R.cells) (hRslots : slots + 6 ≤ R.slots) (hlocks : meth.locks = false)
    (hx : ∀ t : State, s.vm.Alike t.vm → H.size ≤ t.heap.size → (∀ q : Nat, q < H.size → t.heap[q]? = H[q]?) → XC xsC s t)
    (hf : ∀ z ∈ locs, free z.base) (hc : cells + 1 ≤ mc) (hs : slots + 6 ≤ ms) :
    W p l e R s m args below meth c H locs cells slots (vx_MQ below Qc XC args s mc ms free) (F0 m pc ls rest) := by
  intro T hT X
  have htr : e.platform.stackTraces = false := (show e.platform.stackTraces = l.stackTraces by rw [X.admits.platform]).trans hl
  have Y := vx_rebase X (R' := { frames := R.frames, locals := R.locals, cells := 1, slots := 6 }) (Nat.le_refl _) (Nat.le_refl _) hRcells hRslots
  obtain ⟨s', hA⟩ : ∃ z, z = (T.setVm s.vm).setFrames (.invoking m args :: below) := ⟨_, rfl⟩
  rw [← hA] at Y
  have hvm : s'.vm = s.vm := by rw [hA]; rfl
  have hhp : s'.heap = H := by rw [hA]; exact hT
  have hW0 : s.WarmedH s'.vm := by rw [hvm]; exact State.WarmedH.refl s
  have hat' : ∀ w ∈ xsW, w.before args s' = true := fun w hw => vx_ot_at hW0 hvm.symm (xs_ot w (List.mem_cons_of_mem _ (List.mem_cons_of_mem _ hw))) (hat w hw)
  have hk' : (Cond.classLink RX11 141 xsC).before args s' = true := vx_ot_at hW0 hvm.symm (xs_ot _ List.mem_cons_self) hk
  have hini' : (Cond.initialized xsC).before args s' = true := vx_ot_at hW0 hvm.symm (xs_ot _ (List.mem_cons_of_mem _ List.mem_cons_self)) hini
  have hU' : vx_Zq Bundle.tN "UNASSIGNED_STACK" Bundle.steD A s' s'.heap := by rw [hhp]; exact vx_Zq.moved hW0.alike (hU.kept hS.2.1)
  have hN' : vx_Zq Bundle.tN "SUPPRESSED_SENTINEL" Bundle.listD A s' s'.heap := by rw [hhp]; exact vx_Zq.moved hW0.alike (hN.kept hS.2.1)
  have h : ∀ w ∈ xsA, w.before args s' = true := vx_own hat' (vx_isRefq hU'.1) (vx_isRefq hN'.1) hU'.2.word hN'.2.word
  have hown' : s'.vm.findClass RX11 = some m.cls := by rw [hvm]; exact hown
  have hins : (Cond.instantiable xsC 6).before args s' = true := h _ (xs_i5 (by simp [xsL5]))
  obtain ⟨vm₁, cX, kX, hfX, hkX, -, -, X₁, st1⟩ := Y.newCold hexec (own := RX11) (C := xsC) (index := 141) (n := 6) hown' hk' hins hini'
    (g := F0 m pc ls rest) rfl (by rw [hb]; exact d0) (Nat.le_refl _) (Nat.le_refl _)
  generalize hT1 : (T.setVm vm₁).pushCell { cls := cX, slots := kX.instanceTypes.map defaultValue, vm := .none } = T1 at X₁ st1
  have hcat : (Value.ref T.heap.size).category = 1 := rfl
  have hcellA : T1.heap[T.heap.size]? = some (freshCell cX kX) := by rw [← hT1]; exact State.heap_pushCell_size _ _
  have d3' : decode c.code (pc + 3) = .ok (.dup, 1) := by rw [hb]; exact d3
  have d4' : decode c.code (pc + 4) = .ok (.ldc is, 2) := by rw [hb]; exact d4
  have hstr' : vk_R RX11 is text sa s' := vk_R.warm hW0 hstr
  obtain ⟨U, hsteps, hrun, hend, hW, hsame, ce, hce, hcv, hcl9⟩ := xs_ctor X₁ hexec htr hown' h (vx_isRefq hU'.1) (vx_isRefq hN'.1) (fun x hx => nomatch hx) hfX hkX hcellA (by rw [hhp, hT]; exact Nat.le_refl _) (msg := .ref sa) rfl
    (g := { method := m, pc := pc + 6, locals := ls, stack := .ref sa :: .ref T.heap.size :: .ref T.heap.size :: rest, locked := none }) rfl hsize rfl rfl (rest := rest) rfl
    (by rw [hb]; exact d6) (by rw [hb]; exact d9) hout hRframes (by simp only [List.map_cons, List.sum_cons, hcat]; omega) hlocks
  obtain ⟨f1, f2⟩ := vx_frame hsame
  rw [hhp] at f1 f2
  have hWs : s.WarmedH U.vm := State.WarmedH.trans hW0 hW
  have hcl : s.vm.findClass xsC = some ce.cls := by
    rw [hvm] at hcl9
    exact hcl9
  have hall : s.sameButNew ({ U with vm := s.vm } : State) locs mc ms := by
    subst hA
    obtain ⟨e1, e2⟩ := hsame
    rw [State.setFrames_setFrames] at e1
    have h2 : (T.setVm s.vm).sameButNew ({ U with vm := s.vm } : State) [] (0 + 1) (0 + 6) := ⟨e1, e2⟩
    have h3 := X.same.trans h2
    rw [List.append_nil] at h3
    exact h3.mono hc hs
  refine ⟨U, ?_, .threw T.heap.size, hrun, hend, Or.inr ⟨T.heap.size, rfl, xsC, ce, locs, hx U hWs.alike f1 (fun q hq => f2 q hq (fun z hz => nomatch hz)), hce, hcv, hcl, hWs, hall, hf⟩⟩
  refine st1 _ ?_
  show Steps p.tables e below (T1.setTop { method := m, pc := pc + 3, locals := ls, stack := .ref T.heap.size :: rest, locked := none }) _
  jvm_step X₁.here [X₁.here.top, hexec, d3', Value.category]
  exact X₁.ldcString hexec (own := RX11) (text := text) (index := is) (a := sa) hown' hstr'.1 hstr'.2
    (g := { method := m, pc := pc + 4, locals := ls, stack := .ref T.heap.size :: .ref T.heap.size :: rest, locked := none }) rfl d4' _ hsteps
end XT
/-- the words of what is thrown that aren't kept by links alone -/
def Vk (U : State) : Prop := ∀ w ∈ xsB, w.before #[] U = true
theorem on_args {w : Cond} {U : State} {a b : Array Value} (h : w.onTables = true) (hb : w.before a U = true) : w.before b U = true := by
  have := Cond.onTables_vm (A := a) (A' := b) (U := U) (U' := U) U.vm w h
  have h1 : w.before a (U.setVm U.vm) = true := hb
  rw [this] at h1; exact h1
theorem on_vm {w : Cond} {U U' : State} {a b : Array Value} (h : w.onTables = true) (e : U.vm = U'.vm) (hb : w.before a U = true) : w.before b U' = true := by
  have := Cond.onTables_vm (A := a) (A' := b) (U := U) (U' := U') U.vm w h
  have h1 : w.before a (U.setVm U.vm) = true := hb
  rw [this] at h1
  have h2 : U'.setVm U.vm = U' := by rw [e]; rfl
  rw [h2] at h1; exact h1
theorem Vk.warm {s U : State} (hW : s.WarmedH U.vm) (h : Vk s) : Vk U := fun w hw => by
  obtain ⟨f1, f2⟩ := xs_face w hw
  have h1 := Cond.faceAtom_setVm (args := #[]) hW.alike w f1 (h w hw)
  exact on_vm (U := s.setVm U.vm) f2 rfl h1
theorem Vk.same {s U : State} (e : s.vm = U.vm) (h : Vk s) : Vk U := fun w hw => on_vm (xs_face w hw).2 e (h w hw)
def rmx (d : Nat) : Room := { frames := d, cells := 1, slots := 6, locals := 60 * d }
def Xcx (E : Ex) (A : Nat → Prop) (X : Prop) (μ : Mm) : String → State → State → Prop := vx_X (fun _ : Unit => X) (fun En _ t => En = xsC ∧ va_P E.2.1 vwCl (wld E μ) t.heap) A
def Pcy (E : Ex) (vs : List Value) (μ : Mm) (sz : Nat) : Array Value → State → Prop := fun a U => Pcx E vs μ sz a U ∧ Vk U
def ConX (E : Ex) (d : Nat) (M : Mx) (vs : List Value) (μ : Mm) (Q : Option Value → Mm → Prop) (X : Prop) : Prop :=
  ∀ sz : Nat, vx_Met E.1 M.1 (.code M.1 M.2.1 M.2.2.1 M.2.2.2 :: Tg) (rmx d) (Pcy E vs μ sz) (Qcx E (va_A (wld E μ) sz) Q) (Xcx E (va_A (wld E μ) sz) X μ) 1 6 (va_A (wld E μ) sz)
/-- where such a method runs -/
def GT (E : Ex) (Q : Option Value → Mm → Prop) (X : Prop) (μ : Mm) (G : Gx) : Prop :=
  gk G = 0 ∧ gl G = 0 ∧ 1 ≤ (gR G).cells ∧ 6 ≤ (gR G).slots ∧ Vk (gs G) ∧ (∀ x ∈ (gc G).exceptionTable.toList, False) ∧ ∀ t, vx_MQ (gb G) (Qcx E (gA G) Q) (Xcx E (gA G) X μ) (ga G) (gs G) 1 6 (gA G) t → gZ G t
theorem MQ_x {below : List Frame} {Qc : Array Value → State → Outcome → State → Prop} {XC : String → State → State → Prop} {a : Array Value} {s : State} {free : Addr → Prop} {t : State} (h : MQ below Qc a s 0 0 free t) : vx_MQ below Qc XC a s 1 6 free t := by
  obtain ⟨o, b1, b2, b3, L, ⟨f1, f2, f3⟩, b5⟩ := h
  exact ⟨o, b1, b2, Or.inl ⟨b3, L, ⟨f1, f2, f3.mono (by omega) (by omega)⟩, b5⟩⟩
section JX
variable {E : Ex} {G : Gx} {d : Nat} {M : Mx} {Q : Option Value → Mm → Prop} {pc : Nat} {ls : List (Nat × Value)} {st : List Value} {μ : Mm} {X : Prop}
theorem ConX_J {vs : List Value} (hy : plainName M.1.cls = true) (hn : (lg_sl vs).length ≤ M.2.2.1) (h : ∀ G, GT E Q X μ G → J E G d M Q 0 (lv_args 0 vs) [] μ) : ConX E d M vs μ Q X := by
  intro sz
  refine vx_ofW (cc := M.2.1) (maxL := M.2.2.1) (ret := M.2.2.2) hy rfl ?_
  intro p e s m args below meth c s₁ B hml hx hv
  obtain ⟨⟨rfl, hsz, hP, hK, hD0, hNk⟩, hVk⟩ := hv
  subst hsz
  have hts := atoms_spec (ws := .code M.1 M.2.1 M.2.2.1 M.2.2.2 :: Tg) B.pre
  have hown : s.vm.findClass M.1.cls = some m.cls := findClass_of_methodNamed B.named
  have hD := hD0.self (sz := s.heap.size)
  rw [lg_entry_eq]
  exact h (p, e, rmx d, s, m, vs.toArray, below, meth, c, va_A (wld E μ) s.heap.size, 0, 0, vx_MQ below (Qcx E (va_A (wld E μ) s.heap.size) Q) (Xcx E (va_A (wld E μ) s.heap.size) X μ) vs.toArray s 1 6 (va_A (wld E μ) s.heap.size))
    ⟨rfl, rfl, Nat.le_refl _, Nat.le_refl _, hVk, hx, fun _ h => h⟩
    ⟨B.exec, B.bytes, hml, B.returns, B.notSynchronized, hown, fun w hw => hts w (List.mem_cons_of_mem _ hw), hK, fun q hq => Or.inr hq, wld_D hD, hNk, ⟨Nat.le_refl _, Nat.le_refl _, Nat.zero_le _, Nat.zero_le _⟩, fun _ h => MQ_x h⟩ s.heap [] _ hP va_S.rf (lv_entry vs hn)
theorem J_throwS {is sa : Nat} {text : String} (hG : GT E Q X μ G) (hX : X) (hM : M.1.cls = RX11) (hd6 : 6 ≤ d) (hw : (st.map fun v => v.category).sum ≤ 40)
    (d0 : decode M.2.1 pc = .ok (.new 141, 3)) (d3 : decode M.2.1 (pc + 3) = .ok (.dup, 1)) (d4 : decode M.2.1 (pc + 4) = .ok (.ldc is, 2)) (d6 : decode M.2.1 (pc + 6) = .ok (.invokespecial 145, 3)) (d9 : decode M.2.1 (pc + 9) = .ok (.athrow, 1))
    (hs : (RX11, is, text, sa) ∈ strLit) : J E G d M Q pc ls st μ := by
  intro hF H locs lsA hP hS hl
  obtain ⟨g1, g2, g3, g4, g5, g6, g7⟩ := hG
  refine W_mono g7 ?_
  obtain ⟨f1, f2, f3, f4, f5, f6, f7, f8, f9, f10, ⟨x1, x2, x3⟩, ⟨r1, r2, r3, r4⟩, f13⟩ := hF
  have hts : ∀ w, w ∈ lw_tbl → goodWord w = true → w.before (ga G) (gs G) = true := fun w h1 h2 => f7 w (in_Tg h1 h2)
  refine xs_throw (text := text) (is := is) (mc := 1) (ms := 6) (sa := E.2.2.2.2.1 sa) (A := gA G) f1 f2 x3.2.2.2.2.2 (by rw [← hM]; exact f6) (hts _ xs_k1 (by decide)) (hts _ xs_k2 (by decide)) (x2 _ hs) ?_ x3.2.2.1 x3.2.2.2.1 hS (hl.1.trans f3.symm) d0 d3 d4 d6 d9 (fun x hx => absurd (g6 x hx) id) ?_ ?_ ?_ ?_ f5 ?_ hS.2.2 ?_ ?_
  · exact vx_hat (B := xsB) (fun w hw => hts w (xs_good w hw) (List.mem_filter.mp hw).2) (fun w hw => hw) (fun w hw => on_args (xs_face w hw).2 (g5 w hw))
  · omega
  · omega
  · rw [g1]; exact g3
  · rw [g2]; exact g4
  · intro t ht hz hk
    refine ⟨(), hX, ⟨rfl, hP.kept (fun k q hq => hk q.1 (hP k q hq).lt)⟩, Nat.le_trans hS.1 hz, fun q h1 h2 => ?_⟩
    rw [hk q (Nat.lt_of_lt_of_le h1 hS.1)]; exact hS.2.1 q h1 h2
  · rw [g1]; omega
  · rw [g2]; omega
end JX

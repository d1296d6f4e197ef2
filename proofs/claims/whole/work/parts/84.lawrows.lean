def R_law : String := "VotingFloorLaw"
def lw_P (b : Addr) (xs : List Int32) (args : Array Value) (s : State) : Prop := args = #[.ref b] ∧ s.IntsAt b xs ∧ xs.length ≤ 2560 ∧ (Jvm.Cond.and given_1 narrow_1).before args s = true
def lw_Q (_ : Array Value) (s : State) (o : Outcome) (t : State) : Prop := o = .returned (some (.int 1)) ∧ Framed s o t [] 601024 7293034
def lw_Z (below : List Frame) (a : Array Value) (s : State) : State → Prop := fun t => ∃ o, t.status = .running ∧ Ended t below o ∧ lw_Q a s o t
/-- the law's own end, with 1 on the stack, nothing written that was there before, its room as the claim has it -/
theorem lw_ret {p : Program} {l : Launch} {e : Env} {s : State} {m : MethodId} {below : List Frame} {meth : Method} {c : Code} {b : Nat} (hx : p.tables.exec = Jvm.exec) (hb : c.code = code) (hr : meth.sig.returnType = ret) (hlocks : meth.locks = false) {pc : Nat} {H : Heap} {ls : Array Slot} (hdg : decode code pc = .ok (.ireturn, 1)) : W p l e room_1 s m #[Value.ref b] below meth c H [] 601024 7293034 (lw_Z below #[Value.ref b] s) (F0 m pc ls [.int 1]) := by
  intro T hT X
  obtain ⟨fs, hret, hrun, hended, hW, hframe⟩ := X.leave (v := some (.int 1)) (hlocks := hlocks) (fun h => by rw [hr] at h; cases h)
  have hmeth' : T.vm.method? m = some meth := X.method'
  refine ⟨T.setFrames fs, ?_, .returned (some (.int 1)), hrun, hended, rfl, ⟨_, rfl⟩, hW, hframe⟩
  jvm_step X.here [X.here.top, hx, hb, hdg, hmeth', hr, ret, narrow_b1]
  (try refine ⟨rfl, ?_⟩); (try refine ⟨rfl, ?_⟩)
  first | (intro acts; rw [hret _ acts rfl rfl rfl]) | rw [hret _ _ rfl rfl rfl]
  exact Steps.refl _
/-- what holds at the law's entry: the machine, the code, the tables' words (any of lw_tbl by 'hts w (by decide +kernel)'), the script of L ints xs at the cell b, what the Statement gives of the start (any of its parts by flat_of_before) -/
def lw_At (p : Program) (s : State) (m : MethodId) (meth : Method) (c : Code) (b L : Nat) (xs : Nat → Int32) : Prop :=
  p.tables.exec = Jvm.exec ∧ c.code = code ∧ meth.sig.returnType = ret ∧ c.maxLocals = 8 ∧ s.vm.findClass R_law = some m.cls ∧ (∀ w ∈ lw_tbl, w.before #[Value.ref b] s = true) ∧ va_X b L xs s s.heap ∧ b < s.heap.size ∧ meth.locks = false ∧ (Jvm.Cond.and given_1 narrow_1).before #[Value.ref b] s = true
/-! the law's own rows (what stands ahead is the skeleton's) -/
def QF : Option Value → Mm → Prop := fun _ _ => False
/-- where the law runs -/
def LG (b L : Nat) (xs : Nat → Int32) (G : Gx) : Prop := gR G = room_1 ∧ ga G = #[Value.ref b] ∧ va_X b L xs (gs G) (gs G).heap ∧ b < (gs G).heap.size ∧ gA G = (fun q => (gs G).heap.size ≤ q) ∧ Vk (gs G) ∧ gZ G = lw_Z (gb G) #[Value.ref b] (gs G) ∧ L ≤ 2560
abbrev lwl (E : Ex) (b n : Nat) : List (Nat × Value) := [(0, .ref b), (1, rf E 0), (2, rf E 49), (3, rf E 78), (4, .int (nI n))]
theorem LG.up {b L : Nat} {xs : Nat → Int32} {G : Gx} (h : LG b L xs G) : LG b L xs (gup G) := h
section LR
variable {E : Ex} {G : Gx} {d : Nat} {M : Mx} {Q : Option Value → Mm → Prop} {pc : Nat} {ls : List (Nat × Value)} {st : List Value} {μ : Mm} {b L n : Nat} {xs : Nat → Int32}
theorem LG.nA (h : LG b L xs G) : ¬ gA G b := by
  rw [h.2.2.2.2.1]
  exact Nat.not_le.mpr h.2.2.2.1
theorem J_slen (hG : LG b L xs G) (hd : decode M.2.1 pc = .ok (.arraylength, 1)) (k : J E G d M Q (pc + 1) ls (.int (nI L) :: st) μ) : J E G d M Q pc ls (.ref b :: st) μ :=
  fun hF H locs lsA hP hS hl => va_slen hF.1 hF.2.1 hG.2.2.1 hG.2.2.2.1 hG.nA hS hd (k hF H locs lsA hP hS hl)
theorem J_sld (hG : LG b L xs G) {i v : Int32} (hin : vp_in i L) (hv : xs i.toNatClampNeg = v) (hd : decode M.2.1 pc = .ok (.iaload, 1)) (k : J E G d M Q (pc + 1) ls (.int v :: st) μ) : J E G d M Q pc ls (.int i :: .ref b :: st) μ :=
  fun hF H locs lsA hP hS hl => va_sld hF.1 hF.2.1 hG.2.2.1 hG.2.2.2.1 hG.nA hS hin hd (hv ▸ k hF H locs lsA hP hS hl)
/-- an int of the script behind the call's own -/
theorem J_arg (hG : LG b L xs G) (hn : n + 5 ≤ L) {j : Nat} {jc : Int} (hj : j ≤ 4) (p0 p4 : Nat) (h0 : ls[p0]? = some (0, .ref b)) (h4 : ls[p4]? = some (4, .int (nI n))) (hjc : Int32.ofInt jc = nI j)
    (d0 : decode M.2.1 pc = .ok (.aload_n 0, 1)) (d1 : decode M.2.1 (pc + 1) = .ok (.iload 4, 2)) (d3 : decode M.2.1 (pc + 3) = .ok (.iconst jc, 1)) (d4 : decode M.2.1 (pc + 4) = .ok (.iadd, 1)) (d5 : decode M.2.1 (pc + 5) = .ok (.iaload, 1))
    (k : J E G d M Q (pc + 6) ls (.int (xs (n + j)) :: st) μ) : J E G d M Q pc ls st μ := by
  have hL := hG.2.2.2.2.2.2.2
  refine J_aload_nx d0 p0 rfl h0 ?_
  refine J_iload d1 p4 h4 ?_
  refine J_iconst (v := nI j) d3 hjc ?_
  refine J_iadd d4 ?_
  refine J_at (nI_add n j) ?_
  exact J_sld hG (vp_in_nI (by omega) (by omega)) (by rw [nI_clamp (by omega)]) d5 k
/-- the law's end -/
theorem J_lawret (hG : LG b L xs G) (hd : decode code pc = .ok (.ireturn, 1)) : J E G d mL_law QF pc ls [.int 1] μ := by
  intro hF H locs lsA hP hS hl
  obtain ⟨g1, g2, g3, g4, g5, g6, g7, g8⟩ := hG
  obtain ⟨f1, f2, f3, f4, f5, f6, f7, f8, f9, f10, f11, ⟨r1, r2, r3, r4⟩, f13⟩ := hF
  have hb : ∀ q ∈ locs, (gs G).heap.size ≤ q.base := fun q hq => by
    have := hS.2.2 q hq
    rw [g5] at this; exact this
  refine va_forget hb ?_
  refine W.widen r3 r4 ?_
  rw [g1, g2, g7]
  exact lw_ret f1 f2 f4 f5 hd
end LR

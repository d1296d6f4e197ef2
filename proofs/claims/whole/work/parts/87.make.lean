/-! making: the worlds of constructors; a constructor's own cell stands first, what it makes behind -/
abbrev Bx : Type := Launch × va_G × (Nat → ClassId)
def tyB (B : Bx) : List (ClassId × FieldType) := [(B.2.2 0, .char), (B.2.2 1, .int), (B.2.2 2, .long), (B.2.2 3, .boolean)]
def rmk (d mc ms : Nat) : Room := { frames := d, cells := mc, slots := ms, locals := 60 * d }
def Qmx (B : Bx) (A : Nat → Prop) (w1 : (Nat → Nat) → va_W) : Array Value → State → Outcome → State → Prop :=
  va_Qv (fun _ : Nat → Nat => True) (fun a t => va_P B.2.1 vwCl (w1 a) t.heap ∧ va_D A (w1 a)) A
def Pmx (B : Bx) (vs : List Value) (w0 : va_W) (sz : Nat) : Array Value → State → Prop :=
  va_Pc vs (fun U => U.heap.size = sz ∧ va_P B.2.1 vwCl w0 U.heap ∧ va_K B.2.1 vwCl (tyB B) U ∧ va_D (fun _ => True) w0 ∧ Nk U)
def Mk (B : Bx) (d : Nat) (M : Mx) (vs : List Value) (w0 : va_W) (w1 : (Nat → Nat) → va_W) (mc ms : Nat) : Prop :=
  ∀ sz : Nat, Met B.1 M.1 (.code M.1 M.2.1 M.2.2.1 M.2.2.2 :: Tg) (rmk d mc ms) (Pmx B vs w0 sz) (Qmx B (va_A w0 sz) w1) mc ms (va_A w0 sz)
def Ix (B : Bx) (d : Nat) (M : Mx) (G : Gx) : Prop :=
  (gp G).tables.exec = Jvm.exec ∧ (gc G).code = M.2.1 ∧ (gc G).maxLocals = M.2.2.1 ∧ (gM G).sig.returnType = M.2.2.2 ∧ (gM G).locks = false ∧
  (gs G).vm.findClass M.1.cls = some (gm G).cls ∧ (∀ w ∈ Tg, w.before (ga G) (gs G) = true) ∧ va_K B.2.1 vwCl (tyB B) (gs G) ∧ (∀ q : Nat, (gs G).heap.size ≤ q → gA G q) ∧ Nk (gs G) ∧ (d ≤ (gR G).frames ∧ 60 * d ≤ (gR G).locals)
def I (B : Bx) (G : Gx) (d : Nat) (M : Mx) (pc : Nat) (ls : List (Nat × Value)) (st : List Value) (k n : Nat) (ws : va_W) : Prop :=
  Ix B d M G → ∀ (H : Heap) (locs : List Loc) (lsA : Array Slot), va_P B.2.1 vwCl ws H → va_D (gA G) ws → va_S (gA G) (gs G).heap H locs → lv_has lsA M.2.2.1 ls →
    W (gp G) B.1 (ge G) (gR G) (gs G) (gm G) (ga G) (gb G) (gM G) (gc G) H locs k n (gZ G) (F0 (gm G) pc lsA st)
section IX
variable {B : Bx} {d : Nat} {M : Mx} {G : Gx}
theorem Ix.x (h : Ix B d M G) : (gp G).tables.exec = Jvm.exec := h.1
theorem Ix.b (h : Ix B d M G) : (gc G).code = M.2.1 := h.2.1
theorem Ix.ml (h : Ix B d M G) : (gc G).maxLocals = M.2.2.1 := h.2.2.1
theorem Ix.r (h : Ix B d M G) : (gM G).sig.returnType = M.2.2.2 := h.2.2.2.1
theorem Ix.lk (h : Ix B d M G) : (gM G).locks = false := h.2.2.2.2.1
theorem Ix.ow (h : Ix B d M G) : (gs G).vm.findClass M.1.cls = some (gm G).cls := h.2.2.2.2.2.1
theorem Ix.ts (h : Ix B d M G) : ∀ w ∈ Tg, w.before (ga G) (gs G) = true := h.2.2.2.2.2.2.1
theorem Ix.K (h : Ix B d M G) : va_K B.2.1 vwCl (tyB B) (gs G) := h.2.2.2.2.2.2.2.1
theorem Ix.A (h : Ix B d M G) : ∀ q : Nat, (gs G).heap.size ≤ q → gA G q := h.2.2.2.2.2.2.2.2.1
theorem Ix.N (h : Ix B d M G) : Nk (gs G) := h.2.2.2.2.2.2.2.2.2.1
theorem Ix.R (h : Ix B d M G) : d ≤ (gR G).frames ∧ 60 * d ≤ (gR G).locals := h.2.2.2.2.2.2.2.2.2.2
end IX
theorem Pmx_blind {B : Bx} {vs : List Value} {w0 : va_W} {sz : Nat} : ∀ (a : Array Value) (U : State) (g : JFrame) (mk : _), Pmx B vs w0 sz a U → Pmx B vs w0 sz a (U.calling g mk a) := by
  rintro a U g mk ⟨q0, q1, qP, qK, qD, qN⟩
  exact ⟨q0, q1, qP, va_K.moved (u := U) (U := U.calling g mk a) (Vm.Alike.refl U.vm) qK, qD, Nk.same (s := U) (U := U.calling g mk a) rfl qN⟩
section IR
variable {B : Bx} {G : Gx} {d : Nat} {M : Mx} {pc : Nat} {ls : List (Nat × Value)} {st : List Value} {k n : Nat} {ws : va_W}
theorem Mk_I {vs : List Value} {w0 : va_W} {w1 : (Nat → Nat) → va_W} {mc ms : Nat} (hy : plainName M.1.cls = true) (hn : (lg_sl vs).length ≤ M.2.2.1)
    (h : ∀ G, gR G = rmk d mc ms → (M.1.name = (gM G).name) → (∀ t, MQ (gb G) (Qmx B (gA G) w1) (ga G) (gs G) mc ms (gA G) t → gZ G t) → I B G d M 0 (lv_args 0 vs) [] 0 0 w0) : Mk B d M vs w0 w1 mc ms := by
  intro sz
  refine Met.ofW (cc := M.2.1) (maxL := M.2.2.1) (ret := M.2.2.2) hy rfl ?_
  intro p e s m args below meth c s₁ Bd hml hv
  obtain ⟨rfl, hsz, hP, hK, hD0, hNk⟩ := hv
  subst hsz
  have hts := atoms_spec (ws := .code M.1 M.2.1 M.2.2.1 M.2.2.2 :: Tg) Bd.pre
  have hown : s.vm.findClass M.1.cls = some m.cls := findClass_of_methodNamed Bd.named
  have hin : meth.name = M.1.name := (name_of_methodNamed Bd.named Bd.method).1
  have hD := hD0.self (sz := s.heap.size)
  rw [lg_entry_eq]
  exact h (p, e, rmk d mc ms, s, m, vs.toArray, below, meth, c, va_A w0 s.heap.size, 0, 0, MQ below (Qmx B (va_A w0 s.heap.size) w1) vs.toArray s mc ms (va_A w0 s.heap.size)) rfl hin.symm (fun _ h => h)
    ⟨Bd.exec, Bd.bytes, hml, Bd.returns, Bd.notSynchronized, hown, fun w hw => hts w (List.mem_cons_of_mem _ hw), hK, fun q hq => Or.inr hq, hNk, ⟨Nat.le_refl _, Nat.le_refl _⟩⟩ s.heap [] _ hP hD va_S.rf (lv_entry vs hn)
theorem I_aload_n {k0 : Fin 4} {i x : Nat} (hd : decode M.2.1 pc = .ok (.aload_n k0, 1)) (p : Nat) (hi : (k0 : Nat) = i) (hl0 : ls[p]? = some (i, .ref x)) (kk : I B G d M (pc + 1) ls (.ref x :: st) k n ws) : I B G d M pc ls st k n ws :=
  fun hF H locs lsA hP hD hS hl => lv_aload_n hF.x hF.b hd hi (lv_at hl p hl0) (kk hF H locs lsA hP hD hS hl)
theorem I_iload_n {k0 : Fin 4} {i : Nat} {x : Int32} (hd : decode M.2.1 pc = .ok (.iload_n k0, 1)) (p : Nat) (hi : (k0 : Nat) = i) (hl0 : ls[p]? = some (i, .int x)) (kk : I B G d M (pc + 1) ls (.int x :: st) k n ws) : I B G d M pc ls st k n ws :=
  fun hF H locs lsA hP hD hS hl => lv_iload_n hF.x hF.b hd hi (lv_at hl p hl0) (kk hF H locs lsA hP hD hS hl)
theorem I_iconst {j : Int} {v : Int32} (hd : decode M.2.1 pc = .ok (.iconst j, 1)) (hv : Int32.ofInt j = v) (kk : I B G d M (pc + 1) ls (.int v :: st) k n ws) : I B G d M pc ls st k n ws :=
  fun hF H locs lsA hP hD hS hl => lv_iconst hF.x hF.b hd hv (kk hF H locs lsA hP hD hS hl)
theorem I_bipush {j : Int} {v : Int32} (hd : decode M.2.1 pc = .ok (.bipush j, 2)) (hv : (Int8.ofInt j).toInt32 = v) (kk : I B G d M (pc + 2) ls (.int v :: st) k n ws) : I B G d M pc ls st k n ws :=
  fun hF H locs lsA hP hD hS hl => lv_bipush hF.x hF.b hd hv (kk hF H locs lsA hP hD hS hl)
theorem I_sipush {j : Int} {v : Int32} (hd : decode M.2.1 pc = .ok (.sipush j, 3)) (hv : (Int16.ofInt j).toInt32 = v) (kk : I B G d M (pc + 3) ls (.int v :: st) k n ws) : I B G d M pc ls st k n ws :=
  fun hF H locs lsA hP hD hS hl => lv_sipush hF.x hF.b hd hv (kk hF H locs lsA hP hD hS hl)
theorem I_dup {v : Value} (hd : decode M.2.1 pc = .ok (.dup, 1)) (hc : v.category = 1) (kk : I B G d M (pc + 1) ls (v :: v :: st) k n ws) : I B G d M pc ls (v :: st) k n ws :=
  fun hF H locs lsA hP hD hS hl => lv_dup hF.x hF.b hd hc (kk hF H locs lsA hP hD hS hl)
theorem I_iadd {x y : Int32} (hd : decode M.2.1 pc = .ok (.iadd, 1)) (kk : I B G d M (pc + 1) ls (.int (x + y) :: st) k n ws) : I B G d M pc ls (.int y :: .int x :: st) k n ws :=
  fun hF H locs lsA hP hD hS hl => lv_iadd hF.x hF.b hd (kk hF H locs lsA hP hD hS hl)
theorem I_icmp_ge {x y : Int32} {off : Int} {tgt : Nat} (hd : decode M.2.1 pc = .ok (.if_icmp .ge off, 3)) (ht : (pc : Int) + off = (tgt : Int)) (kt : y ≤ x → I B G d M tgt ls st k n ws) (kf : ¬ y ≤ x → I B G d M (pc + 3) ls st k n ws) : I B G d M pc ls (.int y :: .int x :: st) k n ws :=
  fun hF H locs lsA hP hD hS hl => lv_icmp_ge hF.x hF.b hd ht (fun h => kt h hF H locs lsA hP hD hS hl) (fun h => kf h hF H locs lsA hP hD hS hl)
theorem wObjI : Cond.instanceMethod objectInit ∈ Tg := in_Tg (in_t1 (List.mem_of_getElem? (i := 31) (by decide +kernel))) rfl
theorem wObjC : Cond.code objectInit ⟨#[0xb1]⟩ 1 none ∈ Tg := in_Tg (in_t1 (List.mem_of_getElem? (i := 32) (by decide +kernel))) rfl
theorem I_obj {idx a : Nat} (hd : decode M.2.1 pc = .ok (.invokespecial idx, 3)) (hl0 : Cond.methodLink M.1.cls idx objectInit ∈ Tg) (hd1 : 1 ≤ d) (kk : I B G d M (pc + 3) ls [] k n ws) : I B G d M pc ls [.ref a] k n ws :=
  fun hF H locs lsA hP hD hS hl => W.objInit hF.x hF.b hF.ow (hF.ts _ hl0) (hF.ts _ wObjI) (hF.ts _ wObjC) rfl (by rw [hF.ml]; exact hl.1) rfl hd (Nat.le_trans hd1 hF.R.1) (Nat.le_trans (m := 20) (Nat.le_of_ble_eq_true rfl) (by have := hF.R.2; omega)) (kk hF H locs lsA hP hD hS hl)
theorem I_ret {w1 : (Nat → Nat) → va_W} {mc ms : Nat} (hd : decode M.2.1 pc = .ok (.return_, 1)) (hr : M.2.2.2 = none) (hz : ∀ t, MQ (gb G) (Qmx B (gA G) w1) (ga G) (gs G) mc ms (gA G) t → gZ G t) (a : Nat → Nat) (hk : k = mc) (hn : n = ms) (hw : w1 a = ws) : I B G d M pc ls [] k n ws := by
  subst hk; subst hn; subst hw
  exact fun hF H locs lsA hP hD hS hl => W_mono hz (W.vret hF.x hF.b (hF.r.trans hr) (fun t ht hW => ⟨⟨a, rfl, trivial, by rw [ht]; exact hP, hD⟩, hS.F ht⟩) hS.2.2 hd hF.lk)
theorem I_newa {at0 : ArrayType} {t N : Nat} {v : Int32} {ty : FieldType} {a0 : vp_A} (hd : decode M.2.1 pc = .ok (.newarray at0, 2)) (harr : Cond.arrayClass ty ∈ Tg) (hty : newarray.typeOf at0 = ty) (ht : (tyB B)[t]? = some (B.2.2 t, ty)) (hra : ∀ (U : State) (c : ClassId), va_RA U c ty → U.vm.findClass ("[" ++ ty.toString) = some c)
    (ha : ∀ cA : ClassId, vp_cell cA a0 = arrV cA N (fun _ => defaultValue ty)) (hn0 : ¬ v < 0) (hN : v.toNatClampNeg = N) (hby : N * componentBytes ty ≤ 536870912) (h1 : k + 1 ≤ (gR G).cells) (h2 : n + N ≤ (gR G).slots)
    (kk : ∀ q : Nat, I B G d M (pc + 2) ls (.ref q :: st) (k + 1) (n + N) (ws ++ [(q, .inl (B.2.2 t, a0))])) : I B G d M pc ls (.int v :: st) k n ws := by
  intro hF H locs lsA hP hD hS hl
  subst hty
  refine va_newa hF.x hF.b (hF.ts _ harr) rfl hF.K hP hD hS hF.A ha hn0 hN hby h1 h2 hd (fun q cA H1 hK1 hP1 hD1 hS1 => ?_)
  have e1 := hra _ _ (hF.K.2 t _ ht).2
  have e2 := hra _ _ (hK1.2 4 (cA, newarray.typeOf at0) rfl).2
  rw [e1] at e2
  cases e2
  exact kk q hF H1 locs lsA hP1 hD1 hS1 hl
theorem I_new {idx ci N : Nat} {C : String} {T : u_T} {fs : List Value} (hd : decode M.2.1 pc = .ok (.new idx, 3)) (hc : vwCl[ci]? = some (C, T, N)) (hin : ∀ w ∈ u_ws C T N, w ∈ Tg) (ty : Nat → FieldType) (hty : ∀ k, k < N → parseFieldDescriptor (T k).2.2.1 = some (ty k)) (hcl : Cond.classLink M.1.cls idx C ∈ Tg) (hi : Cond.instantiable C N ∈ Tg) (hini : Cond.initialized C ∈ Tg)
    (hfs : ∀ j, j < N → defaultValue (ty j) = vp_V fs j) (h1 : k + 1 ≤ (gR G).cells) (h2 : n + N ≤ (gR G).slots)
    (kk : ∀ q : Nat, I B G d M (pc + 3) ls (.ref q :: st) (k + 1) (n + N) (ws ++ [(q, .inr (ci, fs))])) : I B G d M pc ls st k n ws :=
  fun hF H locs lsA hP hD hS hl => va_new hF.x hF.b hF.ts hin ty hty hF.ow (hF.ts _ hcl) (hF.ts _ hi) (hF.ts _ hini) hF.K hP hD hS hF.A hc hfs h1 h2 hd (fun q H1 hP1 hD1 hS1 => kk q hF H1 locs lsA hP1 hD1 hS1 hl)
def PutC (own : String) (idx ci slot : Nat) (ty : FieldType) : Prop := ∃ (C : String) (T : u_T) (N : Nat) (ty0 : Nat → FieldType), vwCl[ci]? = some (C, T, N) ∧ slot < N ∧ (∀ w ∈ u_ws C T N, w ∈ Tg) ∧ Cond.fieldLink own idx (T slot).1 (T slot).2.1 (T slot).2.2.1 ∈ Tg ∧ (∀ k, k < N → parseFieldDescriptor (T k).2.2.1 = some (ty0 k)) ∧ (∀ a, a < N → ∀ b, b < N → a ≠ b → (T a).2.1 ≠ (T b).2.1) ∧ ((T slot).2.2.2 = false ∨ (T slot).2.2.2 = true ∧ (T slot).1 = own) ∧ parseFieldDescriptor (T slot).2.2.1 = some ty
theorem I_put {idx ci slot a : Nat} {ty : FieldType} {v : Value} {fs fs' : List Value} {tl : va_W} (hd : decode M.2.1 pc = .ok (.putfield idx, 3)) (hf : PutC M.1.cls idx ci slot ty) (hm : (gM G).name = "<init>" ∨ PutOK M.1.cls idx ci slot ty) (hn : narrow ty v = v) (hfit : fits ty v = true) (hl0 : slot < fs.length) (hfs : fs.set slot v = fs')
    (kk : I B G d M (pc + 3) ls st k n ((a, .inr (ci, fs')) :: tl)) : I B G d M pc ls (v :: .ref a :: st) k n ((a, .inr (ci, fs)) :: tl) := by
  subst hfs
  intro hF H locs lsA hP hD hS hl
  rcases hm with hm | ⟨C, T, N, ty0, h1, h2, h3, h4, h5, h6, h7, h8⟩
  · obtain ⟨C, T, N, ty0, h1, h2, h3, h4, h5, h6, h7, h8⟩ := hf
    rcases h7 with h7 | ⟨h7, h9⟩
    · exact va_put (v := v) hF.x hF.b hF.ts h3 ty0 h5 h6 hF.ow hF.K hP hD hS 0 rfl h1 slot h2 (hF.ts _ h4) (fun _ h => h) h7 h8 hn hfit hl0 hd (fun H1 locs1 hP1 hD1 hS1 => kk hF H1 locs1 lsA hP1 hD1 hS1 hl)
    · exact va_putF (v := v) hF.x hF.b hF.ts h3 ty0 h5 h6 hF.ow hF.K hP hD hS 0 rfl h1 slot h2 (hF.ts _ h4) (fun _ h => h) h7 hm h9 h8 hn hfit hl0 hd (fun H1 locs1 hP1 hD1 hS1 => kk hF H1 locs1 lsA hP1 hD1 hS1 hl)
  · exact va_put (v := v) hF.x hF.b hF.ts h3 ty0 h5 h6 hF.ow hF.K hP hD hS 0 rfl h1 slot h2 (hF.ts _ h4) (fun _ h => h) h7 h8 hn hfit hl0 hd (fun H1 locs1 hP1 hD1 hS1 => kk hF H1 locs1 lsA hP1 hD1 hS1 hl)
theorem I_get {idx ci slot a : Nat} {v : Value} {fs : List Value} {tl : va_W} (hd : decode M.2.1 pc = .ok (.getfield idx, 3)) (hf : FldOK M.1.cls idx ci slot) (hv : fs[slot]? = some v) (kk : I B G d M (pc + 3) ls (v :: st) k n ((a, .inr (ci, fs)) :: tl)) : I B G d M pc ls (.ref a :: st) k n ((a, .inr (ci, fs)) :: tl) := by
  intro hF H locs lsA hP hD hS hl
  obtain ⟨C, T, N, h1, h2, h3, h4⟩ := hf
  exact va_get hF.x hF.b hF.ts h3 hF.ow hF.K hP 0 rfl h1 slot h2 (hF.ts _ h4) (fun _ h => h) hv hd (kk hF H locs lsA hP hD hS hl)
theorem I_iast {a N j : Nat} {i x : Int32} {f : Nat → Int32} {ws' : va_W} (hd : decode M.2.1 pc = .ok (.iastore, 1)) (q0 : Nat) (ha : ws[q0]? = some (a, .inl (B.2.2 1, N, .inl f))) (hin : vp_in i N) (hj : i.toNatClampNeg = j) (hw : ws.set q0 (a, .inl (B.2.2 1, N, .inl (upd f j x))) = ws')
    (kk : I B G d M (pc + 1) ls st k n ws') : I B G d M pc ls (.int x :: .int i :: .ref a :: st) k n ws := by
  subst hw
  subst hj
  exact fun hF H locs lsA hP hD hS hl => va_iast hF.x hF.b hF.K hP hD hS q0 1 ha rfl hin hd (fun H1 locs1 hP1 hD1 hS1 => kk hF H1 locs1 lsA hP1 hD1 hS1 hl)
theorem I_alen {a N : Nat} {f : Nat → Int32} (hd : decode M.2.1 pc = .ok (.arraylength, 1)) (q0 : Nat) (ha : ws[q0]? = some (a, .inl (B.2.2 1, N, .inl f))) (kk : I B G d M (pc + 1) ls (.int (Int32.ofNat N) :: st) k n ws) : I B G d M pc ls (.ref a :: st) k n ws :=
  fun hF H locs lsA hP hD hS hl => va_alen hF.x hF.b hF.K hP q0 1 ha rfl rfl hd (kk hF H locs lsA hP hD hS hl)
theorem I_cons {x : Nat × va_E} {tl w : va_W} (kk : I B G d M pc ls st k n (x :: (tl ++ w))) : I B G d M pc ls st k n ((x :: tl) ++ w) := kk
theorem I_is {ws' : va_W} (hw : ws = ws') (kk : I B G d M pc ls st k n ws') : I B G d M pc ls st k n ws := hw ▸ kk
end IR

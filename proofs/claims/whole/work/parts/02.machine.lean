/-! the abstract machine: memory is numbers by cell and place; the cells' shapes are fixed (dscL, part 01) -/
abbrev Mm : Type := (Nat → Nat → Int32) × (Nat → Nat → Int64)
/-- the launch, the kit's numbers of classes and slots, the classes of arrays (0 char, 1 int, 2 long, 3 boolean), the addresses of the cells -/
abbrev Ex : Type := Launch × va_G × (Nat → ClassId) × (Nat → Nat) × (Nat → Nat) × (Nat → Nat)
def rf (E : Ex) (k : Nat) : Value := .ref (E.2.2.2.1 k)
def fvs (E : Ex) (f : Nat → Int32) : Nat → List (Option Nat) → List Value
  | _, [] => []
  | j, none :: r => .int (f j) :: fvs E f (j + 1) r
  | j, some q :: r => rf E q :: fvs E f (j + 1) r
def en (E : Ex) (μ : Mm) (k : Nat) (d : Ds) : va_E := match d with
  | .inl o => .inr (o.1, fvs E (μ.1 k) 0 o.2)
  | .inr (.inl a) => .inl (E.2.2.1 a.1, a.2, .inl (μ.1 k))
  | .inr (.inr n) => .inl (E.2.2.1 2, n, .inr (.inl (μ.2 k)))
def wld (E : Ex) (μ : Mm) : va_W := dscL.mapIdx (fun k d => (E.2.2.2.1 k, en E μ k d))
def upI (μ : Mm) (k j : Nat) (v : Int32) : Mm := (fun a => if a = k then upd (μ.1 a) j v else μ.1 a, μ.2)
def upJ (μ : Mm) (k j : Nat) (v : Int64) : Mm := (μ.1, fun a => if a = k then vp_updL (μ.2 a) j v else μ.2 a)
def tysE (E : Ex) : List (ClassId × FieldType) := [(E.2.2.1 0, .char), (E.2.2.1 1, .int), (E.2.2.1 2, .long), (E.2.2.1 3, .boolean)]
theorem fvs_get {E : Ex} {f : Nat → Int32} : ∀ (ks : List (Option Nat)) (i j : Nat), ks[j]? = some none → (fvs E f i ks)[j]? = some (.int (f (i + j)))
  | [], _, _, h => by simp at h
  | none :: r, i, 0, _ => by simp [fvs]
  | some q :: r, i, 0, h => by simp at h
  | none :: r, i, j + 1, h => by
    simp only [fvs, List.getElem?_cons_succ] at h ⊢
    rw [fvs_get r (i + 1) j h, Nat.add_assoc, Nat.add_comm 1 j]
  | some q :: r, i, j + 1, h => by
    simp only [fvs, List.getElem?_cons_succ] at h ⊢
    rw [fvs_get r (i + 1) j h, Nat.add_assoc, Nat.add_comm 1 j]
theorem fvs_ref {E : Ex} {f : Nat → Int32} {q : Nat} : ∀ (ks : List (Option Nat)) (i j : Nat), ks[j]? = some (some q) → (fvs E f i ks)[j]? = some (rf E q)
  | [], _, _, h => by simp at h
  | none :: r, i, 0, h => by simp at h
  | some q :: r, i, 0, h => by simp at h; simp [fvs, h]
  | none :: r, i, j + 1, h => by
    simp only [fvs, List.getElem?_cons_succ] at h ⊢
    exact fvs_ref r (i + 1) j h
  | some q :: r, i, j + 1, h => by
    simp only [fvs, List.getElem?_cons_succ] at h ⊢
    exact fvs_ref r (i + 1) j h
theorem fvs_congr {E : Ex} {f g : Nat → Int32} : ∀ (ks : List (Option Nat)) (i : Nat), (∀ j, i ≤ j → f j = g j) → fvs E f i ks = fvs E g i ks
  | [], _, _ => rfl
  | none :: r, i, h => by simp only [fvs]; rw [h i (Nat.le_refl i), fvs_congr r (i + 1) (fun j hj => h j (by omega))]
  | some q :: r, i, h => by simp only [fvs]; rw [fvs_congr r (i + 1) (fun j hj => h j (by omega))]
theorem fvs_set {E : Ex} {f : Nat → Int32} {v : Int32} : ∀ (ks : List (Option Nat)) (i j : Nat), ks[j]? = some none → (fvs E f i ks).set j (.int v) = fvs E (upd f (i + j) v) i ks
  | [], _, _, h => by simp at h
  | none :: r, i, 0, _ => by
    simp only [fvs, List.set_cons_zero, Nat.add_zero]
    rw [fvs_congr (f := f) (g := upd f i v) r (i + 1) (fun j hj => by unfold upd; rw [if_neg (by omega)])]
    congr 2
    unfold upd; rw [if_pos rfl]
  | some q :: r, i, 0, h => by simp at h
  | none :: r, i, j + 1, h => by
    simp only [fvs, List.set_cons_succ, List.getElem?_cons_succ] at h ⊢
    rw [fvs_set r (i + 1) j h, show i + 1 + j = i + (j + 1) by omega]
    congr 2
    unfold upd; rw [if_neg (by omega)]
  | some q :: r, i, j + 1, h => by
    simp only [fvs, List.set_cons_succ, List.getElem?_cons_succ] at h ⊢
    rw [fvs_set r (i + 1) j h, show i + 1 + j = i + (j + 1) by omega]
theorem fvs_len {E : Ex} {f : Nat → Int32} : ∀ (ks : List (Option Nat)) (i : Nat), (fvs E f i ks).length = ks.length
  | [], _ => rfl
  | none :: r, i => by simp only [fvs, List.length_cons]; rw [fvs_len r]
  | some q :: r, i => by simp only [fvs, List.length_cons]; rw [fvs_len r]
theorem wld_at {E : Ex} {μ : Mm} {k : Nat} {d : Ds} (h : dscL[k]? = some d) : (wld E μ)[k]? = some (E.2.2.2.1 k, en E μ k d) := by
  simp [wld, List.getElem?_mapIdx, h]
theorem wld_set {E : Ex} {μ μ' : Mm} {k : Nat} {e : va_E} (hk : ∀ d, dscL[k]? = some d → e = en E μ' k d) (ho : ∀ j d, j ≠ k → dscL[j]? = some d → en E μ j d = en E μ' j d) : (wld E μ).set k (E.2.2.2.1 k, e) = wld E μ' := by
  apply List.ext_getElem?
  intro j
  rw [List.getElem?_set]
  by_cases hj : k = j
  · subst hj
    rw [if_pos rfl]
    cases hd : dscL[k]? with
    | none =>
      have : ¬ k < (wld E μ).length := by
        rw [List.getElem?_eq_none_iff] at hd
        simp [wld]; omega
      rw [if_neg this]
      simp [wld, List.getElem?_mapIdx, hd]
    | some d =>
      have : k < (wld E μ).length := by
        have := (List.getElem?_eq_some_iff.mp hd).1
        simpa [wld] using this
      rw [if_pos this, wld_at hd, hk d hd]
  · rw [if_neg hj]
    cases hd : dscL[j]? with
    | none => simp [wld, List.getElem?_mapIdx, hd]
    | some d => rw [wld_at hd, wld_at hd, ho j d (fun h => hj h.symm) hd]
theorem en_up {E : Ex} {μ : Mm} {k j : Nat} {v : Int32} (i : Nat) (d : Ds) (h : i ≠ k) : en E μ i d = en E (upI μ k j v) i d := by
  unfold en upI
  simp only [if_neg h]
theorem en_upJ {E : Ex} {μ : Mm} {k j : Nat} {v : Int64} (i : Nat) (d : Ds) (h : i ≠ k) : en E μ i d = en E (upJ μ k j v) i d := by
  unfold en upJ
  simp only [if_neg h]
theorem wld_fld {E : Ex} {μ : Mm} {k ci j : Nat} {ks : List (Option Nat)} {v : Int32} (h : dscL[k]? = some (.inl (ci, ks))) (hj : ks[j]? = some none) :
    (wld E μ).set k (E.2.2.2.1 k, .inr (ci, (fvs E (μ.1 k) 0 ks).set j (.int v))) = wld E (upI μ k j v) := by
  refine wld_set (fun d hd => ?_) (fun i d hi _ => en_up i d hi)
  rw [h] at hd
  cases hd
  show Sum.inr _ = Sum.inr _
  rw [fvs_set ks 0 j hj, Nat.zero_add]
  simp only [upI, if_pos]
theorem wld_arr {E : Ex} {μ : Mm} {k t n j : Nat} {v : Int32} (h : dscL[k]? = some (.inr (.inl (t, n)))) :
    (wld E μ).set k (E.2.2.2.1 k, .inl (E.2.2.1 t, n, .inl (upd (μ.1 k) j v))) = wld E (upI μ k j v) := by
  refine wld_set (fun d hd => ?_) (fun i d hi _ => en_up i d hi)
  rw [h] at hd
  cases hd
  show Sum.inl _ = Sum.inl _
  simp only [upI, if_pos]
theorem wld_arrJ {E : Ex} {μ : Mm} {k n j : Nat} {v : Int64} (h : dscL[k]? = some (.inr (.inr n))) :
    (wld E μ).set k (E.2.2.2.1 k, .inl (E.2.2.1 2, n, .inr (.inl (vp_updL (μ.2 k) j v)))) = wld E (upJ μ k j v) := by
  refine wld_set (fun d hd => ?_) (fun i d hi _ => en_upJ i d hi)
  rw [h] at hd
  cases hd
  show Sum.inl _ = Sum.inl _
  simp only [upJ, if_pos]
theorem wld_D {E : Ex} {μ μ' : Mm} {A : Nat → Prop} (h : va_D A (wld E μ)) : va_D A (wld E μ') := by
  have key : ∀ (i : Nat) (q : Nat × va_E), (wld E μ')[i]? = some q → ∃ q', (wld E μ)[i]? = some q' ∧ q'.1 = q.1 := by
    intro i q hq
    cases hd : dscL[i]? with
    | none => simp [wld, List.getElem?_mapIdx, hd] at hq
    | some d =>
      rw [wld_at hd] at hq
      cases hq
      exact ⟨_, wld_at hd, rfl⟩
  refine ⟨fun i j p q hp hq hpq => ?_, fun k q hq => ?_⟩
  · obtain ⟨p', hp', ep⟩ := key i p hp
    obtain ⟨q', hq', eq⟩ := key j q hq
    exact h.1 i j p' q' hp' hq' (by rw [ep, eq, hpq])
  · obtain ⟨q', hq', eq⟩ := key k q hq
    rw [← eq]
    exact h.2 k q' hq'
/-! the judgement -/
/-- the tables' words that stay as they are, whatever is linked meanwhile -/
def Tg : List Cond := lw_tbl.filter goodWord
theorem Tg_good : GoodIn Tg Tg := fun w h => ⟨h, good_of_word (List.mem_filter.mp h).2⟩
theorem in_Tg {w : Cond} (h : w ∈ lw_tbl) (hg : goodWord w = true) : w ∈ Tg := List.mem_filter.mpr ⟨h, hg⟩
theorem Tg_in {w : Cond} (h : w ∈ Tg) : w ∈ lw_tbl := (List.mem_filter.mp h).1
def isNest : Cond → Bool
  | .methodLinkNest .. => true
  | _ => false
def Ng : List Cond := lw_tbl.filter isNest
theorem in_Ng {w : Cond} (h : w ∈ lw_tbl) (hg : isNest w = true) : w ∈ Ng := List.mem_filter.mpr ⟨h, hg⟩
/-- the words of nest mates -/
def Nk (U : State) : Prop := ∀ w ∈ Ng, va_Nw w U
theorem Nk.warm {s U : State} (hW : s.WarmedH U.vm) (h : Nk s) : Nk U := by
  intro w hw
  have h2 := (List.mem_filter.mp hw).2
  cases w <;> first | (simp [isNest] at h2; done) | exact va_Nw.warmM hW (h _ hw)
theorem Nk.same {s U : State} (e : s.vm = U.vm) (h : Nk s) : Nk U := by
  intro w hw
  have h2 := (List.mem_filter.mp hw).2
  cases w <;> first | (simp [isNest] at h2; done) | exact va_Nw.same rfl e (h _ hw)
/-- the texts that are literals: lengths, bytes, and where the classes' files name them -/
def strN : Nat := 9
def strLen : List Nat := [7, 2, 2, 3, 2, 2, 5, 9, 12]
def strByt : List (List Int32) := [[99, 112, 119, 109, 113, 105, 110], [45, 43], [119, 101], [60, 62, 61], [43, 45], [42, 47], [110, 111, 115, 108, 116], [110, 111, 110, 101, 32, 115, 117, 99, 104], [97, 110, 111, 116, 104, 101, 114, 32, 119, 104, 97, 116]]
def strLit : List (String × Nat × String × Nat) := [("VotingFloor$Rule", 88, "cpwmqin", 0), ("VotingFloor", 143, "none such", 7), ("VotingFloor", 171, "another what", 8), ("VotingFloorModel", 193, "-+", 1), ("VotingFloorModel", 229, "cpwmqin", 0), ("VotingFloorModel", 234, "<>=", 3), ("VotingFloorModel", 236, "+-", 4), ("VotingFloorModel", 238, "*/", 5), ("VotingFloorModel", 333, "noslt", 6), ("VotingFloorModel", 335, "we", 2)]
/-- what the start gives beside the tables: texts, statics, the launch -/
def Sk (E : Ex) (A : Nat → Prop) (U : State) (H : Heap) : Prop :=
  vk_S strN strLen strByt E.2.2.2.2.1 E.2.2.2.2.2 A U H ∧ va_Z "java/lang/String" "COMPACT_STRINGS" "Z" (.int 1) A U H ∧
  vx_Zq Bundle.tN "UNASSIGNED_STACK" Bundle.steD A U H ∧ vx_Zq Bundle.tN "SUPPRESSED_SENTINEL" Bundle.listD A U H ∧ va_Zq "jdk/internal/util/Preconditions" "SIOOBE_FORMATTER" "Ljava/util/function/BiFunction;" A U H ∧ E.1.stackTraces = false
def Lk (E : Ex) (U : State) : Prop := ∀ q ∈ strLit, vk_R q.1 q.2.1 q.2.2.1 (E.2.2.2.2.1 q.2.2.2) U
def Xk (E : Ex) (A : Nat → Prop) (U : State) (H : Heap) : Prop := Nk U ∧ Lk E U ∧ Sk E A U H
theorem Sk.moved {E : Ex} {A : Nat → Prop} {u U : State} {H : Heap} (hvm : u.vm.Alike U.vm) (h : Sk E A u H) : Sk E A U H :=
  ⟨h.1.moved hvm, h.2.1.moved hvm, h.2.2.1.moved hvm, h.2.2.2.1.moved hvm, va_Zq.moved hvm h.2.2.2.2.1, h.2.2.2.2.2⟩
theorem Sk.kept {E : Ex} {A : Nat → Prop} {U : State} {H H1 : Heap} (h : Sk E A U H) (hq : ∀ a : Nat, a < H.size → ¬ A a → H1[a]? = H[a]?) : Sk E A U H1 :=
  ⟨h.1.kept hq, h.2.1.kept hq, h.2.2.1.kept hq, h.2.2.2.1.kept hq, va_Zq.kept h.2.2.2.2.1 hq, h.2.2.2.2.2⟩
theorem Sk.narrow {E : Ex} {A B : Nat → Prop} {U : State} {H : Heap} (h : Sk E A U H) (hAB : ∀ q, B q → A q) : Sk E B U H :=
  ⟨h.1.narrow hAB, h.2.1.narrow hAB, h.2.2.1.narrow hAB, h.2.2.2.1.narrow hAB, va_Zq.narrow h.2.2.2.2.1 hAB, h.2.2.2.2.2⟩
/-- at a call: what holds at the method's start holds at the callee's -/
theorem Xk.call {E : Ex} {A B : Nat → Prop} {s U : State} {H : Heap} (h : Xk E A s s.heap) (hW : s.WarmedH U.vm) (hU : U.heap = H) (hq : ∀ a : Nat, a < s.heap.size → ¬ A a → H[a]? = s.heap[a]?) (hAB : ∀ q, B q → A q) : Xk E B U U.heap := by
  refine ⟨Nk.warm hW h.1, fun q hq => vk_R.warm hW (h.2.1 q hq), ?_⟩
  rw [hU]
  exact ((h.2.2.kept hq).narrow hAB).moved hW.alike
theorem Xk.same {E : Ex} {A : Nat → Prop} {s U : State} {H : Heap} (e : U.vm = s.vm) (h : Xk E A s H) : Xk E A U H :=
  ⟨Nk.same e.symm h.1, fun q hq => vk_R.same e (h.2.1 q hq), h.2.2.moved (by rw [e]; exact Vm.Alike.refl _)⟩
/-- a method: its name, its bytes, its locals, what it returns -/
abbrev Mx : Type := MethodName × ByteArray × Nat × Option FieldType
/-- where a method runs: machine, surroundings, room, start, itself, arguments, what lies below, its record and code, what it may write, cells and slots made, the end -/
abbrev Gx : Type := Program × Env × Room × State × MethodId × Array Value × List Frame × Method × Code × (Nat → Prop) × Nat × Nat × (State → Prop)
abbrev gp (G : Gx) : Program := G.1
abbrev ge (G : Gx) : Env := G.2.1
abbrev gR (G : Gx) : Room := G.2.2.1
abbrev gs (G : Gx) : State := G.2.2.2.1
abbrev gm (G : Gx) : MethodId := G.2.2.2.2.1
abbrev ga (G : Gx) : Array Value := G.2.2.2.2.2.1
abbrev gb (G : Gx) : List Frame := G.2.2.2.2.2.2.1
abbrev gM (G : Gx) : Method := G.2.2.2.2.2.2.2.1
abbrev gc (G : Gx) : Code := G.2.2.2.2.2.2.2.2.1
abbrev gA (G : Gx) : Nat → Prop := G.2.2.2.2.2.2.2.2.2.1
abbrev gk (G : Gx) : Nat := G.2.2.2.2.2.2.2.2.2.2.1
abbrev gl (G : Gx) : Nat := G.2.2.2.2.2.2.2.2.2.2.2.1
abbrev gZ (G : Gx) : State → Prop := G.2.2.2.2.2.2.2.2.2.2.2.2
def rmd (d : Nat) : Room := { frames := d, cells := 0, slots := 0, locals := 60 * d }
def m00 : Mm := (fun _ _ => 0, fun _ _ => 0)
def Qcx (E : Ex) (A : Nat → Prop) (Q : Option Value → Mm → Prop) : Array Value → State → Outcome → State → Prop := fun _ st oc t =>
  (∃ (v : Option Value) (μ' : Mm), oc = .returned v ∧ Q v μ' ∧ va_P E.2.1 vwCl (wld E μ') t.heap) ∧ va_F A st t
def Fx (E : Ex) (d : Nat) (M : Mx) (Q : Option Value → Mm → Prop) (G : Gx) : Prop :=
  (gp G).tables.exec = Jvm.exec ∧ (gc G).code = M.2.1 ∧ (gc G).maxLocals = M.2.2.1 ∧ (gM G).sig.returnType = M.2.2.2 ∧ (gM G).locks = false ∧
  (gs G).vm.findClass M.1.cls = some (gm G).cls ∧ (∀ w ∈ Tg, w.before (ga G) (gs G) = true) ∧ va_K E.2.1 vwCl (tysE E) (gs G) ∧ (∀ q : Nat, (gs G).heap.size ≤ q → gA G q) ∧ va_D (gA G) (wld E m00) ∧
  Xk E (gA G) (gs G) (gs G).heap ∧ (d ≤ (gR G).frames ∧ 60 * d ≤ (gR G).locals ∧ gk G ≤ (gR G).cells ∧ gl G ≤ (gR G).slots) ∧
  (∀ t : State, MQ (gb G) (Qcx E (gA G) Q) (ga G) (gs G) (gk G) (gl G) (gA G) t → gZ G t)
def J (E : Ex) (G : Gx) (d : Nat) (M : Mx) (Q : Option Value → Mm → Prop) (pc : Nat) (ls : List (Nat × Value)) (st : List Value) (μ : Mm) : Prop :=
  Fx E d M Q G → ∀ (H : Heap) (locs : List Loc) (lsA : Array Slot), va_P E.2.1 vwCl (wld E μ) H → va_S (gA G) (gs G).heap H locs → lv_has lsA M.2.2.1 ls →
    W (gp G) E.1 (ge G) (gR G) (gs G) (gm G) (ga G) (gb G) (gM G) (gc G) H locs (gk G) (gl G) (gZ G) (F0 (gm G) pc lsA st)
/-- what a call finds -/
def Pcx (E : Ex) (vs : List Value) (μ : Mm) (sz : Nat) : Array Value → State → Prop :=
  va_Pc vs (fun U => U.heap.size = sz ∧ va_P E.2.1 vwCl (wld E μ) U.heap ∧ va_K E.2.1 vwCl (tysE E) U ∧ va_D (fun _ => True) (wld E μ) ∧ Xk E (va_A (wld E μ) sz) U U.heap)
/-- a contract: from every call with these values and this memory it returns, with Q -/
def Con (E : Ex) (d : Nat) (M : Mx) (vs : List Value) (μ : Mm) (Q : Option Value → Mm → Prop) : Prop :=
  ∀ sz : Nat, Met E.1 M.1 (.code M.1 M.2.1 M.2.2.1 M.2.2.2 :: Tg) (rmd d) (Pcx E vs μ sz) (Qcx E (va_A (wld E μ) sz) Q) 0 0 (va_A (wld E μ) sz)
theorem W_mono {p : Program} {l : Launch} {e : Env} {R : Room} {s : State} {m : MethodId} {args : Array Value} {below : List Frame} {meth : Method} {c : Code} {H : Heap} {locs : List Loc} {cells slots : Nat} {Q Q' : State → Prop} {g : JFrame} (h : ∀ t, Q t → Q' t) (k : W p l e R s m args below meth c H locs cells slots Q g) : W p l e R s m args below meth c H locs cells slots Q' g := by
  intro T hT X
  obtain ⟨t, a, b⟩ := k T hT X
  exact ⟨t, a, h t b⟩
section JR
variable {E : Ex} {G : Gx} {d : Nat} {M : Mx} {Q : Option Value → Mm → Prop} {pc : Nat} {ls : List (Nat × Value)} {st : List Value} {μ : Mm}
theorem Con_J {vs : List Value} (hy : plainName M.1.cls = true) (hn : (lg_sl vs).length ≤ M.2.2.1) (h : ∀ G, J E G d M Q 0 (lv_args 0 vs) [] μ) : Con E d M vs μ Q := by
  intro sz
  refine Met.ofW (cc := M.2.1) (maxL := M.2.2.1) (ret := M.2.2.2) hy rfl ?_
  intro p e s m args below meth c s₁ B hml hv
  obtain ⟨rfl, hsz, hP, hK, hD0, hNk⟩ := hv
  subst hsz
  have hts := atoms_spec (ws := .code M.1 M.2.1 M.2.2.1 M.2.2.2 :: Tg) B.pre
  have hown : s.vm.findClass M.1.cls = some m.cls := findClass_of_methodNamed B.named
  have hD := hD0.self (sz := s.heap.size)
  rw [lg_entry_eq]
  exact h (p, e, rmd d, s, m, vs.toArray, below, meth, c, va_A (wld E μ) s.heap.size, 0, 0, MQ below (Qcx E (va_A (wld E μ) s.heap.size) Q) vs.toArray s 0 0 (va_A (wld E μ) s.heap.size))
    ⟨B.exec, B.bytes, hml, B.returns, B.notSynchronized, hown, fun w hw => hts w (List.mem_cons_of_mem _ hw), hK, fun q hq => Or.inr hq, wld_D hD, hNk, ⟨Nat.le_refl _, Nat.le_refl _, Nat.le_refl _, Nat.le_refl _⟩, fun _ h => h⟩ s.heap [] _ hP va_S.rf (lv_entry vs hn)
theorem Con.mono {vs : List Value} {Q' : Option Value → Mm → Prop} (h : Con E d M vs μ Q) (hq : ∀ v μ', Q v μ' → Q' v μ') : Con E d M vs μ Q' := by
  intro sz
  refine MetFree.mono (h sz) (fun _ _ h => h) (fun _ _ _ _ _ h => h) ?_
  rintro a s o t - ⟨⟨⟨v, μ', h1, h2, h3⟩, h4⟩, h5⟩
  exact ⟨⟨⟨v, μ', h1, hq v μ' h2, h3⟩, h4⟩, h5⟩
theorem J_sub {ls' : List (Nat × Value)} (ks : List Nat) (hl : lv_pick ls ks = ls') (k : J E G d M Q pc ls' st μ) : J E G d M Q pc ls st μ :=
  fun hF H locs lsA hP hS h => k hF H locs lsA hP hS (lv_sub h ks hl)
theorem J_pc {pc' : Nat} (h : pc' = pc) (k : J E G d M Q pc' ls st μ) : J E G d M Q pc ls st μ := h ▸ k
theorem J_nm (k : ∀ μ1 : Mm, μ1 = μ → J E G d M Q pc ls st μ1) : J E G d M Q pc ls st μ := k μ rfl
theorem J_at {x v : Int32} (h : x = v) (k : J E G d M Q pc ls (.int v :: st) μ) : J E G d M Q pc ls (.int x :: st) μ := h ▸ k
end JR

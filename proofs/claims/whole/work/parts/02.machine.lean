/-! the abstract machine: memory is numbers by cell and place; the cells' shapes are fixed (dscL, part 01) -/
abbrev Mm : Type := (Nat → Nat → Int32) × (Nat → Nat → Int64)
/-- the launch, the kit's numbers of classes and slots, the classes of arrays (0 char, 1 int, 2 long, 3 boolean), the addresses of the cells -/
abbrev Ex : Type := Launch × va_G × (Nat → ClassId) × (Nat → Nat)
def rf (E : Ex) (k : Nat) : Value := .ref (E.2.2.2 k)
def fvs (E : Ex) (f : Nat → Int32) : Nat → List (Option Nat) → List Value
  | _, [] => []
  | j, none :: r => .int (f j) :: fvs E f (j + 1) r
  | j, some q :: r => rf E q :: fvs E f (j + 1) r
def en (E : Ex) (μ : Mm) (k : Nat) (d : Ds) : va_E := match d with
  | .inl o => .inr (o.1, fvs E (μ.1 k) 0 o.2)
  | .inr (.inl a) => .inl (E.2.2.1 a.1, a.2, .inl (μ.1 k))
  | .inr (.inr n) => .inl (E.2.2.1 2, n, .inr (.inl (μ.2 k)))
def wld (E : Ex) (μ : Mm) : va_W := dscL.mapIdx (fun k d => (E.2.2.2 k, en E μ k d))
def upI (μ : Mm) (k j : Nat) (v : Int32) : Mm := (fun a => if a = k then upd (μ.1 a) j v else μ.1 a, μ.2)
def upJ (μ : Mm) (k j : Nat) (v : Int64) : Mm := (μ.1, fun a => if a = k then vp_updL (μ.2 a) j v else μ.2 a)
def tysE (E : Ex) : List (ClassId × FieldType) := [(E.2.2.1 0, .char), (E.2.2.1 1, .int), (E.2.2.1 2, .long), (E.2.2.1 3, .boolean)]
theorem fvs_get {E : Ex} {f : Nat → Int32} : ∀ (ks : List (Option Nat)) (i j : Nat), ks[j]? = some none → (fvs E f i ks)[j]? = some (.int (f (i + j)))
  | [], _, _, h => by simp at h
  | none :: r, i, 0, _ => by simp [fvs]
  | some q :: r, i, 0, h => by simp at h
  | none :: r, i, j + 1, h => by
    simp only [fvs, List.getElem?_cons_succ] at h ⊢
    rw [fvs_get r (i + 1) j h, Nat.add_assoc, Nat.add_comm 1 j]
  | some q :: r, i, j + 1, h => by
    simp only [fvs, List.getElem?_cons_succ] at h ⊢
    rw [fvs_get r (i + 1) j h, Nat.add_assoc, Nat.add_comm 1 j]
theorem fvs_ref {E : Ex} {f : Nat → Int32} {q : Nat} : ∀ (ks : List (Option Nat)) (i j : Nat), ks[j]? = some (some q) → (fvs E f i ks)[j]? = some (rf E q)
  | [], _, _, h => by simp at h
  | none :: r, i, 0, h => by simp at h
  | some q :: r, i, 0, h => by simp at h; simp [fvs, h]
  | none :: r, i, j + 1, h => by
    simp only [fvs, List.getElem?_cons_succ] at h ⊢
    exact fvs_ref r (i + 1) j h
  | some q :: r, i, j + 1, h => by
    simp only [fvs, List.getElem?_cons_succ] at h ⊢
    exact fvs_ref r (i + 1) j h
theorem fvs_congr {E : Ex} {f g : Nat → Int32} : ∀ (ks : List (Option Nat)) (i : Nat), (∀ j, i ≤ j → f j = g j) → fvs E f i ks = fvs E g i ks
  | [], _, _ => rfl
  | none :: r, i, h => by simp only [fvs]; rw [h i (Nat.le_refl i), fvs_congr r (i + 1) (fun j hj => h j (by omega))]
  | some q :: r, i, h => by simp only [fvs]; rw [fvs_congr r (i + 1) (fun j hj => h j (by omega))]
theorem fvs_set {E : Ex} {f : Nat → Int32} {v : Int32} : ∀ (ks : List (Option Nat)) (i j : Nat), ks[j]? = some none → (fvs E f i ks).set j (.int v) = fvs E (upd f (i + j) v) i ks
  | [], _, _, h => by simp at h
  | none :: r, i, 0, _ => by
    simp only [fvs, List.set_cons_zero, Nat.add_zero]
    rw [fvs_congr (f := f) (g := upd f i v) r (i + 1) (fun j hj => by unfold upd; rw [if_neg (by omega)])]
    congr 2
    unfold upd; rw [if_pos rfl]
  | some q :: r, i, 0, h => by simp at h
  | none :: r, i, j + 1, h => by
    simp only [fvs, List.set_cons_succ, List.getElem?_cons_succ] at h ⊢
    rw [fvs_set r (i + 1) j h, show i + 1 + j = i + (j + 1) by omega]
    congr 2
    unfold upd; rw [if_neg (by omega)]
  | some q :: r, i, j + 1, h => by
    simp only [fvs, List.set_cons_succ, List.getElem?_cons_succ] at h ⊢
    rw [fvs_set r (i + 1) j h, show i + 1 + j = i + (j + 1) by omega]
theorem fvs_len {E : Ex} {f : Nat → Int32} : ∀ (ks : List (Option Nat)) (i : Nat), (fvs E f i ks).length = ks.length
  | [], _ => rfl
  | none :: r, i => by simp only [fvs, List.length_cons]; rw [fvs_len r]
  | some q :: r, i => by simp only [fvs, List.length_cons]; rw [fvs_len r]
theorem wld_at {E : Ex} {μ : Mm} {k : Nat} {d : Ds} (h : dscL[k]? = some d) : (wld E μ)[k]? = some (E.2.2.2 k, en E μ k d) := by
  simp [wld, List.getElem?_mapIdx, h]
theorem wld_set {E : Ex} {μ μ' : Mm} {k : Nat} {e : va_E} (hk : ∀ d, dscL[k]? = some d → e = en E μ' k d) (ho : ∀ j d, j ≠ k → dscL[j]? = some d → en E μ j d = en E μ' j d) : (wld E μ).set k (E.2.2.2 k, e) = wld E μ' := by
  apply List.ext_getElem?
  intro j
  rw [List.getElem?_set]
  by_cases hj : k = j
  · subst hj
    rw [if_pos rfl]
    cases hd : dscL[k]? with
    | none =>
      have : ¬ k < (wld E μ).length := by
        rw [List.getElem?_eq_none_iff] at hd
        simp [wld]; omega
      rw [if_neg this]
      simp [wld, List.getElem?_mapIdx, hd]
    | some d =>
      have : k < (wld E μ).length := by
        have := (List.getElem?_eq_some_iff.mp hd).1
        simpa [wld] using this
      rw [if_pos this, wld_at hd, hk d hd]
  · rw [if_neg hj]
    cases hd : dscL[j]? with
    | none => simp [wld, List.getElem?_mapIdx, hd]
    | some d => rw [wld_at hd, wld_at hd, ho j d (fun h => hj h.symm) hd]
theorem en_up {E : Ex} {μ : Mm} {k j : Nat} {v : Int32} (i : Nat) (d : Ds) (h : i ≠ k) : en E μ i d = en E (upI μ k j v) i d := by
  unfold en upI
  simp only [if_neg h]
theorem en_upJ {E : Ex} {μ : Mm} {k j : Nat} {v : Int64} (i : Nat) (d : Ds) (h : i ≠ k) : en E μ i d = en E (upJ μ k j v) i d := by
  unfold en upJ
  simp only [if_neg h]
theorem wld_fld {E : Ex} {μ : Mm} {k ci j : Nat} {ks : List (Option Nat)} {v : Int32} (h : dscL[k]? = some (.inl (ci, ks))) (hj : ks[j]? = some none) :
    (wld E μ).set k (E.2.2.2 k, .inr (ci, (fvs E (μ.1 k) 0 ks).set j (.int v))) = wld E (upI μ k j v) := by
  refine wld_set (fun d hd => ?_) (fun i d hi _ => en_up i d hi)
  rw [h] at hd
  cases hd
  show Sum.inr _ = Sum.inr _
  rw [fvs_set ks 0 j hj, Nat.zero_add]
  simp only [upI, if_pos]
theorem wld_arr {E : Ex} {μ : Mm} {k t n j : Nat} {v : Int32} (h : dscL[k]? = some (.inr (.inl (t, n)))) :
    (wld E μ).set k (E.2.2.2 k, .inl (E.2.2.1 t, n, .inl (upd (μ.1 k) j v))) = wld E (upI μ k j v) := by
  refine wld_set (fun d hd => ?_) (fun i d hi _ => en_up i d hi)
  rw [h] at hd
  cases hd
  show Sum.inl _ = Sum.inl _
  simp only [upI, if_pos]
theorem wld_arrJ {E : Ex} {μ : Mm} {k n j : Nat} {v : Int64} (h : dscL[k]? = some (.inr (.inr n))) :
    (wld E μ).set k (E.2.2.2 k, .inl (E.2.2.1 2, n, .inr (.inl (vp_updL (μ.2 k) j v)))) = wld E (upJ μ k j v) := by
  refine wld_set (fun d hd => ?_) (fun i d hi _ => en_upJ i d hi)
  rw [h] at hd
  cases hd
  show Sum.inl _ = Sum.inl _
  simp only [upJ, if_pos]
theorem wld_D {E : Ex} {μ μ' : Mm} {A : Nat → Prop} (h : va_D A (wld E μ)) : va_D A (wld E μ') := by
  have key : ∀ (i : Nat) (q : Nat × va_E), (wld E μ')[i]? = some q → ∃ q', (wld E μ)[i]? = some q' ∧ q'.1 = q.1 := by
    intro i q hq
    cases hd : dscL[i]? with
    | none => simp [wld, List.getElem?_mapIdx, hd] at hq
    | some d =>
      rw [wld_at hd] at hq
      cases hq
      exact ⟨_, wld_at hd, rfl⟩
  refine ⟨fun i j p q hp hq hpq => ?_, fun k q hq => ?_⟩
  · obtain ⟨p', hp', ep⟩ := key i p hp
    obtain ⟨q', hq', eq⟩ := key j q hq
    exact h.1 i j p' q' hp' hq' (by rw [ep, eq, hpq])
  · obtain ⟨q', hq', eq⟩ := key k q hq
    rw [← eq]
    exact h.2 k q' hq'
/-! the judgement -/
/-- the tables' words that stay as they are, whatever is linked meanwhile -/
def Tg : List Cond := lw_tbl.filter goodWord
theorem Tg_good : GoodIn Tg Tg := fun w h => ⟨h, good_of_word (List.mem_filter.mp h).2⟩
theorem in_Tg {w : Cond} (h : w ∈ lw_tbl) (hg : goodWord w = true) : w ∈ Tg := List.mem_filter.mpr ⟨h, hg⟩
theorem Tg_in {w : Cond} (h : w ∈ Tg) : w ∈ lw_tbl := (List.mem_filter.mp h).1
def isNest : Cond → Bool
  | .methodLinkNest .. => true
  | _ => false
def Ng : List Cond := lw_tbl.filter isNest
theorem in_Ng {w : Cond} (h : w ∈ lw_tbl) (hg : isNest w = true) : w ∈ Ng := List.mem_filter.mpr ⟨h, hg⟩
/-- the words of nest mates -/
def Nk (U : State) : Prop := ∀ w ∈ Ng, va_Nw w U
theorem Nk.warm {s U : State} (hW : s.WarmedH U.vm) (h : Nk s) : Nk U := by
  intro w hw
  have h2 := (List.mem_filter.mp hw).2
  cases w <;> first | (simp [isNest] at h2; done) | exact va_Nw.warmM hW (h _ hw)
theorem Nk.same {s U : State} (e : s.vm = U.vm) (h : Nk s) : Nk U := by
  intro w hw
  have h2 := (List.mem_filter.mp hw).2
  cases w <;> first | (simp [isNest] at h2; done) | exact va_Nw.same rfl e (h _ hw)
/-- a method: its name, its bytes, its locals, what it returns -/
abbrev Mx : Type := MethodName × ByteArray × Nat × Option FieldType
abbrev Gx : Type := Program × Env × State × MethodId × Array Value × List Frame × Method × Code × (Nat → Prop)
def rmd (d : Nat) : Room := { frames := d, cells := 0, slots := 0, locals := 60 * d }
def m00 : Mm := (fun _ _ => 0, fun _ _ => 0)
def Fx (E : Ex) (M : Mx) (G : Gx) : Prop :=
  G.1.tables.exec = Jvm.exec ∧ G.2.2.2.2.2.2.2.1.code = M.2.1 ∧ G.2.2.2.2.2.2.2.1.maxLocals = M.2.2.1 ∧ G.2.2.2.2.2.2.1.sig.returnType = M.2.2.2 ∧ G.2.2.2.2.2.2.1.locks = false ∧
  G.2.2.1.vm.findClass M.1.cls = some G.2.2.2.1.cls ∧ (∀ w ∈ Tg, w.before G.2.2.2.2.1 G.2.2.1 = true) ∧ va_K E.2.1 vwCl (tysE E) G.2.2.1 ∧ (∀ q : Nat, G.2.2.1.heap.size ≤ q → G.2.2.2.2.2.2.2.2 q) ∧ va_D G.2.2.2.2.2.2.2.2 (wld E m00) ∧ Nk G.2.2.1
def Qcx (E : Ex) (A : Nat → Prop) (Q : Option Value → Mm → Prop) : Array Value → State → Outcome → State → Prop := fun _ st oc t =>
  (∃ (v : Option Value) (μ' : Mm), oc = .returned v ∧ Q v μ' ∧ va_P E.2.1 vwCl (wld E μ') t.heap) ∧ va_F A st t
def J (E : Ex) (G : Gx) (d : Nat) (M : Mx) (Q : Option Value → Mm → Prop) (pc : Nat) (ls : List (Nat × Value)) (st : List Value) (μ : Mm) : Prop :=
  Fx E M G → ∀ (H : Heap) (locs : List Loc) (lsA : Array Slot), va_P E.2.1 vwCl (wld E μ) H → va_S G.2.2.2.2.2.2.2.2 G.2.2.1.heap H locs → lv_has lsA M.2.2.1 ls →
    W G.1 E.1 G.2.1 (rmd d) G.2.2.1 G.2.2.2.1 G.2.2.2.2.1 G.2.2.2.2.2.1 G.2.2.2.2.2.2.1 G.2.2.2.2.2.2.2.1 H locs 0 0 (MQ G.2.2.2.2.2.1 (Qcx E G.2.2.2.2.2.2.2.2 Q) G.2.2.2.2.1 G.2.2.1 0 0 G.2.2.2.2.2.2.2.2) (F0 G.2.2.2.1 pc lsA st)
/-- a contract: from every call with these values and this memory it returns, with Q -/
def Con (E : Ex) (d : Nat) (M : Mx) (vs : List Value) (μ : Mm) (Q : Option Value → Mm → Prop) : Prop :=
  ∀ sz : Nat, Met E.1 M.1 (.code M.1 M.2.1 M.2.2.1 M.2.2.2 :: Tg) (rmd d)
    (va_Pc vs (fun U => U.heap.size = sz ∧ va_P E.2.1 vwCl (wld E μ) U.heap ∧ va_K E.2.1 vwCl (tysE E) U ∧ va_D (fun _ => True) (wld E μ) ∧ Nk U))
    (Qcx E (va_A (wld E μ) sz) Q) 0 0 (va_A (wld E μ) sz)
section JR
variable {E : Ex} {G : Gx} {d : Nat} {M : Mx} {Q : Option Value → Mm → Prop} {pc : Nat} {ls : List (Nat × Value)} {st : List Value} {μ : Mm}
theorem Con_J {vs : List Value} (hy : plainName M.1.cls = true) (hn : (lg_sl vs).length ≤ M.2.2.1) (h : ∀ G, J E G d M Q 0 (lv_args 0 vs) [] μ) : Con E d M vs μ Q := by
  intro sz
  refine Met.ofW (cc := M.2.1) (maxL := M.2.2.1) (ret := M.2.2.2) hy rfl ?_
  intro p e s m args below meth c s₁ B hml hv
  obtain ⟨rfl, hsz, hP, hK, hD0, hNk⟩ := hv
  subst hsz
  have hts := atoms_spec (ws := .code M.1 M.2.1 M.2.2.1 M.2.2.2 :: Tg) B.pre
  have hown : s.vm.findClass M.1.cls = some m.cls := findClass_of_methodNamed B.named
  have hD := hD0.self (sz := s.heap.size)
  rw [lg_entry_eq]
  exact h (p, e, s, m, vs.toArray, below, meth, c, va_A (wld E μ) s.heap.size) ⟨B.exec, B.bytes, hml, B.returns, B.notSynchronized, hown, fun w hw => hts w (List.mem_cons_of_mem _ hw), hK, fun q hq => Or.inr hq, wld_D hD, hNk⟩ s.heap [] _ hP va_S.rf (lv_entry vs hn)
theorem Con.mono {vs : List Value} {Q' : Option Value → Mm → Prop} (h : Con E d M vs μ Q) (hq : ∀ v μ', Q v μ' → Q' v μ') : Con E d M vs μ Q' := by
  intro sz
  refine MetFree.mono (h sz) (fun _ _ h => h) (fun _ _ _ _ _ h => h) ?_
  rintro a s o t - ⟨⟨⟨v, μ', h1, h2, h3⟩, h4⟩, h5⟩
  exact ⟨⟨⟨v, μ', h1, hq v μ' h2, h3⟩, h4⟩, h5⟩
theorem J_sub {ls' : List (Nat × Value)} (ks : List Nat) (hl : lv_pick ls ks = ls') (k : J E G d M Q pc ls' st μ) : J E G d M Q pc ls st μ :=
  fun hF H locs lsA hP hS h => k hF H locs lsA hP hS (lv_sub h ks hl)
theorem J_pc {pc' : Nat} (h : pc' = pc) (k : J E G d M Q pc' ls st μ) : J E G d M Q pc ls st μ := h ▸ k
end JR

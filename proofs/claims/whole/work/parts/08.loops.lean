/-! loops as functions: a body says how to go on (inl) or how it ends (inr) -/
/-- a number of passes that is large enough; nothing is to count it down -/
theorem FU_ex : ∃ n : Nat, 5000000000 ≤ n := ⟨_, Nat.le_refl _⟩
noncomputable def FU : Nat := Classical.choose FU_ex
theorem FU_le : 5000000000 ≤ FU := Classical.choose_spec FU_ex
def whl {σ ρ : Type} (f : σ → σ ⊕ ρ) (dd : σ → ρ) : Nat → σ → ρ
  | 0, s => dd s
  | n + 1, s => match f s with
    | .inl s' => whl f dd n s'
    | .inr r => r
/-- every pass is sound (sd), and the loop ends within so many passes -/
def whP {σ ρ : Type} (f : σ → σ ⊕ ρ) (sd : σ → Prop) : Nat → σ → Prop
  | 0, _ => False
  | n + 1, s => sd s ∧ (match f s with
    | .inl s' => whP f sd n s'
    | .inr _ => True)
theorem J_whl {σ ρ : Type} {f : σ → σ ⊕ ρ} {dd : σ → ρ} {sd : σ → Prop} {P : σ → Prop} {R : ρ → Prop}
    (step : ∀ s, sd s → (∀ s', f s = .inl s' → P s') → (∀ r, f s = .inr r → R r) → P s) : ∀ (N : Nat) (s : σ), whP f sd N s → R (whl f dd N s) → P s := by
  intro N
  induction N with
  | zero => intro s h _; exact absurd h (by simp [whP])
  | succ n ih =>
    intro s h hr
    obtain ⟨h1, h2⟩ := h
    unfold whl at hr
    refine step s h1 (fun s' hs => ?_) (fun r hs => ?_)
    · rw [hs] at h2 hr
      exact ih s' h2 hr
    · rw [hs] at hr
      exact hr
/-- a loop that counts: its states by number -/
theorem whl_for {σ ρ : Type} {f : σ → σ ⊕ ρ} {dd : σ → ρ} {r : ρ} {n : Nat} (st : Nat → σ) (hs : ∀ i, i < n → f (st i) = .inl (st (i + 1))) (he : f (st n) = .inr r) : ∀ N, n < N → whl f dd N (st 0) = r := by
  have key : ∀ k i, i + k = n → ∀ N, k < N → whl f dd N (st i) = r := by
    intro k
    induction k with
    | zero =>
      intro i hi N hN
      obtain ⟨m, rfl⟩ : ∃ m, N = m + 1 := ⟨N - 1, by omega⟩
      have : i = n := by omega
      subst this
      unfold whl
      rw [he]
    | succ k ih =>
      intro i hi N hN
      obtain ⟨m, rfl⟩ : ∃ m, N = m + 1 := ⟨N - 1, by omega⟩
      unfold whl
      rw [hs i (by omega)]
      exact ih (i + 1) (by omega) m (by omega)
  intro N hN
  exact key n 0 (by omega) N hN
theorem whP_for {σ ρ : Type} {f : σ → σ ⊕ ρ} {sd : σ → Prop} {r : ρ} {n : Nat} (st : Nat → σ) (hd : ∀ i, i ≤ n → sd (st i)) (hs : ∀ i, i < n → f (st i) = .inl (st (i + 1))) (he : f (st n) = .inr r) : ∀ N, n < N → whP f sd N (st 0) := by
  have key : ∀ k i, i + k = n → ∀ N, k < N → whP f sd N (st i) := by
    intro k
    induction k with
    | zero =>
      intro i hi N hN
      obtain ⟨m, rfl⟩ : ∃ m, N = m + 1 := ⟨N - 1, by omega⟩
      have : i = n := by omega
      subst this
      unfold whP
      rw [he]
      exact ⟨hd _ (Nat.le_refl _), trivial⟩
    | succ k ih =>
      intro i hi N hN
      obtain ⟨m, rfl⟩ : ∃ m, N = m + 1 := ⟨N - 1, by omega⟩
      unfold whP
      rw [hs i (by omega)]
      exact ⟨hd i (by omega), ih (i + 1) (by omega) m (by omega)⟩
  intro N hN
  exact key n 0 (by omega) N hN
/-! what stays: all cells but those listed -/
def Fr (S : List Nat) (μ μ' : Mm) : Prop := (∀ k, k ∉ S → μ'.1 k = μ.1 k) ∧ ∀ k, k ∉ S → μ'.2 k = μ.2 k
theorem Fr.rfl {S : List Nat} {μ : Mm} : Fr S μ μ := ⟨fun _ _ => Eq.refl _, fun _ _ => Eq.refl _⟩
theorem Fr.up {S : List Nat} {μ μ' : Mm} {k j : Nat} {v : Int32} (h : Fr S μ μ') (hk : k ∈ S) : Fr S μ (upI μ' k j v) := by
  refine ⟨fun a ha => ?_, h.2⟩
  have : a ≠ k := fun e => ha (e ▸ hk)
  show (if a = k then _ else μ'.1 a) = _
  rw [if_neg this]
  exact h.1 a ha
theorem Fr.upJ {S : List Nat} {μ μ' : Mm} {k j : Nat} {v : Int64} (h : Fr S μ μ') (hk : k ∈ S) : Fr S μ (upJ μ' k j v) := by
  refine ⟨h.1, fun a ha => ?_⟩
  have : a ≠ k := fun e => ha (e ▸ hk)
  show (if a = k then _ else μ'.2 a) = _
  rw [if_neg this]
  exact h.2 a ha
theorem Fr.call {S T : List Nat} {μ μ' μ'' : Mm} (h : Fr S μ μ') (h2 : Fr T μ' μ'') (hs : ∀ k ∈ T, k ∈ S) : Fr S μ μ'' :=
  ⟨fun k hk => (h2.1 k (fun q => hk (hs k q))).trans (h.1 k hk), fun k hk => (h2.2 k (fun q => hk (hs k q))).trans (h.2 k hk)⟩
theorem Fr.ite {S : List Nat} {μ a b : Mm} {c : Prop} [Decidable c] (ha : Fr S μ a) (hb : Fr S μ b) : Fr S μ (if c then a else b) := by
  by_cases h : c
  · rw [if_pos h]; exact ha
  · rw [if_neg h]; exact hb
theorem Fr_whl {σ ρ : Type} {S : List Nat} {f : σ → σ ⊕ ρ} {dd : σ → ρ} (mem : σ → Mm) (memr : ρ → Mm) (hd : ∀ s, memr (dd s) = mem s) (h1 : ∀ s s', f s = .inl s' → Fr S (mem s) (mem s')) (h2 : ∀ s r, f s = .inr r → Fr S (mem s) (memr r)) : ∀ (N : Nat) (s : σ), Fr S (mem s) (memr (whl f dd N s)) := by
  intro N
  induction N with
  | zero => intro s; show Fr S (mem s) (memr (dd s)); rw [hd]; exact Fr.rfl
  | succ n ih =>
    intro s
    unfold whl
    cases hf : f s with
    | inl s' => exact (h1 s s' hf).call (ih s') (fun _ h => h)
    | inr r => exact h2 s r hf
/-! a text by ldc_w (after the kit's row of ldc) -/
section LW
variable {p : Program} {l : Launch} {e : Env} {R : Room} {s : State} {m : MethodId} {args : Array Value} {below : List Frame} {meth : Method} {c : Code} {H : Heap} {locs : List Loc} {cells slots : Nat} {Q : State → Prop}
theorem xw_ldcSI {T : State} (X : Stand p l e R s m args below meth c T locs cells slots) (hexec : p.tables.exec = Jvm.exec) {own text : String} {index : Nat} {a : Addr} (hown : s.vm.findClass own = some m.cls)
    (hconst : (Cond.stringRef own index text).before args s = true) (hev : (Term.string own index).eval args s none [] s = some (.ref a)) {g : JFrame} (hg : g.method = m) (hdg : decode c.code g.pc = .ok (.ldc_w index, 3)) :
    ∀ target, Steps p.tables e below (T.setTop { g with pc := g.pc + 3, stack := .ref a :: g.stack }) target → Steps p.tables e below (T.setTop g) target := by
  obtain ⟨k, cf, i, a', hk, hcf, hcp, -, hr, hev'⟩ := Cond.stringRef_spec hown hconst
  cases hev.symm.trans hev'
  obtain ⟨k', hk', he⟩ := X.warmed.alike.2.2 _ _ hk
  have hr' : k'.resolved[index]? = some (some (.string a)) := by
    rcases X.warmed.entry hk hk' index with h | ⟨h, -⟩
    · rw [h]; exact hr
    · rw [hr] at h; cases h
  intro target hrest
  subst hg
  jvm_step X.here [hexec, hdg, ldc_w.wp_string (e := e) (s := T) (f := g) X.here.top hk' (by rw [he]; exact hcf) hcp hr']
  exact hrest
end LW
theorem J_ldc_wS {E : Ex} {G : Gx} {d : Nat} {M : Mx} {Q : Option Value → Mm → Prop} {pc : Nat} {ls : List (Nat × Value)} {st : List Value} {μ : Mm} {index i : Nat} {tx : String} (hd : decode M.2.1 pc = .ok (.ldc_w index, 3)) (hc : (M.1.cls, index, tx, i) ∈ strLit) (k : J E G d M Q (pc + 3) ls (sf E i :: st) μ) : J E G d M Q pc ls st μ := by
  intro hF H locs lsA hP hS hl T hT X
  have hZ := hF.2.2.2.2.2.2.2.2.2.2.1.2.1 _ hc
  obtain ⟨t, a1, b1⟩ := k hF H locs lsA hP hS hl T hT X
  exact ⟨t, xw_ldcSI X hF.1 hF.2.2.2.2.2.1 (text := tx) (a := E.2.2.2.2.1 i) hZ.1 hZ.2 (g := F0 (gm G) pc lsA st) rfl (by rw [hF.2.1]; exact hd) t a1, b1⟩

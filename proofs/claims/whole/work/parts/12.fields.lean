/-! what stays, by field of the model's own object (49): 1000 + j names field j; by program (wip/whole/frames3.py) -/
def Fs (S : List Nat) (μ μ' : Mm) : Prop := (∀ k j, k ∉ S → (k ≠ 49 ∨ 1000 + j ∉ S) → μ'.1 k j = μ.1 k j) ∧ ∀ k, k ∉ S → μ'.2 k = μ.2 k
theorem Fs.rfl {S : List Nat} {μ : Mm} : Fs S μ μ := ⟨fun _ _ _ _ => Eq.refl _, fun _ _ => Eq.refl _⟩
theorem Fs.up {S : List Nat} {μ μ' : Mm} {k j : Nat} {v : Int32} (h : Fs S μ μ') (hk : k ∈ S) : Fs S μ (upI μ' k j v) := by
  refine ⟨fun a i ha hi => ?_, h.2⟩
  have : a ≠ k := fun e => ha (e ▸ hk)
  show (if a = k then _ else μ'.1 a) i = _
  rw [if_neg this]
  exact h.1 a i ha hi
theorem Fs.upF {S : List Nat} {μ μ' : Mm} {j : Nat} {v : Int32} (h : Fs S μ μ') (hk : 1000 + j ∈ S) : Fs S μ (upI μ' 49 j v) := by
  refine ⟨fun a i ha hi => ?_, h.2⟩
  show (if a = 49 then upd (μ'.1 a) j v else μ'.1 a) i = _
  by_cases e : a = 49
  · rw [if_pos e]
    have : i ≠ j := by
      rintro rfl
      rcases hi with hi | hi
      · exact hi e
      · exact hi hk
    show (if i = j then v else μ'.1 a i) = _
    rw [if_neg this]
    exact h.1 a i ha hi
  · rw [if_neg e]
    exact h.1 a i ha hi
theorem Fs.upJ {S : List Nat} {μ μ' : Mm} {k j : Nat} {v : Int64} (h : Fs S μ μ') (hk : k ∈ S) : Fs S μ (upJ μ' k j v) := by
  refine ⟨h.1, fun a ha => ?_⟩
  have : a ≠ k := fun e => ha (e ▸ hk)
  show (if a = k then _ else μ'.2 a) = _
  rw [if_neg this]
  exact h.2 a ha
theorem Fs.call {S T : List Nat} {μ μ' μ'' : Mm} (h : Fs S μ μ') (h2 : Fs T μ' μ'') (hs : ∀ k ∈ T, k ∈ S) : Fs S μ μ'' :=
  ⟨fun k j hk hj => (h2.1 k j (fun q => hk (hs k q)) (hj.imp id (fun z q => z (hs _ q)))).trans (h.1 k j hk hj), fun k hk => (h2.2 k (fun q => hk (hs k q))).trans (h.2 k hk)⟩
theorem Fs.ite {S : List Nat} {μ a b : Mm} {c : Prop} [Decidable c] (ha : Fs S μ a) (hb : Fs S μ b) : Fs S μ (if c then a else b) := by
  by_cases h : c
  · rw [if_pos h]; exact ha
  · rw [if_neg h]; exact hb
def FsS {σ ρ : Type} (S : List Nat) (μ : Mm) (mi : σ → Mm) (mr : ρ → Mm) (x : σ ⊕ ρ) : Prop := match x with
  | .inl s => Fs S μ (mi s)
  | .inr r => Fs S μ (mr r)
theorem FsS.ite {σ ρ : Type} {S : List Nat} {μ : Mm} {mi : σ → Mm} {mr : ρ → Mm} {a b : σ ⊕ ρ} {c : Prop} [Decidable c] (ha : FsS S μ mi mr a) (hb : FsS S μ mi mr b) : FsS S μ mi mr (if c then a else b) := by
  by_cases h : c
  · rw [if_pos h]; exact ha
  · rw [if_neg h]; exact hb
theorem FsS.inl {σ ρ : Type} {S : List Nat} {μ : Mm} {mi : σ → Mm} {mr : ρ → Mm} {s : σ} (h : Fs S μ (mi s)) : FsS S μ mi mr (.inl s) := h
theorem FsS.inr {σ ρ : Type} {S : List Nat} {μ : Mm} {mi : σ → Mm} {mr : ρ → Mm} {r : ρ} (h : Fs S μ (mr r)) : FsS S μ mi mr (.inr r) := h
theorem Fs_whlK {σ ρ : Type} {S : List Nat} {f : σ → σ ⊕ ρ} {dd : σ → ρ} (mem : σ → Mm) (memr : ρ → Mm) (hd : ∀ s, memr (dd s) = mem s) (key : ∀ s, FsS S (mem s) mem memr (f s)) : ∀ (N : Nat) (s : σ), Fs S (mem s) (memr (whl f dd N s)) := by
  intro N
  induction N with
  | zero => intro s; show Fs S (mem s) (memr (dd s)); rw [hd]; exact Fs.rfl
  | succ n ih =>
    intro s
    unfold whl
    have k := key s
    cases hf : f s with
    | inl s' => rw [hf] at k; exact Fs.call k (ih s') (fun _ h => h)
    | inr r => rw [hf] at k; exact k
theorem FsS.inl3 {ρ : Type} {S : List Nat} {μ : Mm} {mr : ρ → Mm} {a b : Int32} {c : Mm} (h : Fs S μ c) : FsS S μ (fun s : Int32 × Int32 × Mm => s.2.2) mr (.inl (a, b, c)) := h
/-- a frame by cells is one by fields -/
theorem Fr.s {S : List Nat} {μ μ' : Mm} (h : Fr S μ μ') : Fs S μ μ' := ⟨fun k _ hk _ => by rw [h.1 k hk], h.2⟩

set_option maxRecDepth 20000 in
set_option maxHeartbeats 400000 in
theorem fs_X12_becomes (p0 : Int32) (p1 : Int32) (p2 : Int32) (μ : Mm) : Fs [52] μ (e_X12_becomes p0 p1 p2 μ) := by
  unfold e_X12_becomes
  refine lt_ (P := fun z => Fs [52] μ z) ((upI μ 52 (Int32.toNatClampNeg p0) p1)) (fun μ3 : Mm => μ3) (fun μ3 eμ3 => ?_)
  have fμ3 : Fs [52] μ μ3 := by
    rw [eμ3]
    exact (Fs.up Fs.rfl (by simp))
  exact fμ3
set_option maxRecDepth 20000 in
set_option maxHeartbeats 400000 in
theorem fs_X12_codes (p0 : Int32) (μ : Mm) : Fs [58, 1020] μ (e_X12_codes p0 μ) := by
  unfold e_X12_codes
  refine lt_ (P := fun z => Fs [58, 1020] μ z) ((upI μ 58 (Int32.toNatClampNeg (μ.1 49 20)) p0)) (fun μ2 : Mm => (let μ3 : Mm := (upI μ2 49 20 ((μ2.1 49 20) + 1)); μ3)) (fun μ2 eμ2 => ?_)
  have fμ2 : Fs [58, 1020] μ μ2 := by
    rw [eμ2]
    exact (Fs.up Fs.rfl (by simp))
  refine lt_ (P := fun z => Fs [58, 1020] μ z) ((upI μ2 49 20 ((μ2.1 49 20) + 1))) (fun μ3 : Mm => μ3) (fun μ3 eμ3 => ?_)
  have fμ3 : Fs [58, 1020] μ μ3 := by
    rw [eμ3]
    exact (Fs.upF fμ2 (by simp))
  exact fμ3
set_option maxRecDepth 20000 in
set_option maxHeartbeats 400000 in
theorem fs_X12_denies  (μ : Mm) : Fs [1000, 1036] μ (e_X12_denies  μ) := by
  unfold e_X12_denies
  refine lt_ (P := fun z => Fs [1000, 1036] μ z) ((upI μ 49 0 0)) (fun μ1 : Mm => (let μ2 : Mm := (upI μ1 49 36 0); μ2)) (fun μ1 eμ1 => ?_)
  have fμ1 : Fs [1000, 1036] μ μ1 := by
    rw [eμ1]
    exact (Fs.upF Fs.rfl (by simp))
  refine lt_ (P := fun z => Fs [1000, 1036] μ z) ((upI μ1 49 36 0)) (fun μ2 : Mm => μ2) (fun μ2 eμ2 => ?_)
  have fμ2 : Fs [1000, 1036] μ μ2 := by
    rw [eμ2]
    exact (Fs.upF fμ1 (by simp))
  exact fμ2
set_option maxRecDepth 20000 in
set_option maxHeartbeats 400000 in
theorem fs_X12_draws (p0 : Int32) (μ : Mm) : Fs [1041] μ (e_X12_draws p0 μ) := by
  unfold e_X12_draws
  refine lt_ (P := fun z => Fs [1041] μ z) ((upI μ 49 41 (((μ.1 49 41) * 1103515245) + 12345))) (fun μ1 : Mm => μ1) (fun μ1 eμ1 => ?_)
  have fμ1 : Fs [1041] μ μ1 := by
    rw [eμ1]
    exact (Fs.upF Fs.rfl (by simp))
  exact fμ1
set_option maxRecDepth 20000 in
set_option maxHeartbeats 400000 in
theorem fs_X12_enters (p0 : Int64) (μ : Mm) : Fs [50, 1001] μ (e_X12_enters p0 μ) := by
  unfold e_X12_enters
  refine lt_ (P := fun z => Fs [50, 1001] μ z) ((upJ μ 50 (Int32.toNatClampNeg (μ.1 49 1)) p0)) (fun μ2 : Mm => (let μ3 : Mm := (upI μ2 49 1 ((μ2.1 49 1) + 1)); μ3)) (fun μ2 eμ2 => ?_)
  have fμ2 : Fs [50, 1001] μ μ2 := by
    rw [eμ2]
    exact (Fs.upJ Fs.rfl (by simp))
  refine lt_ (P := fun z => Fs [50, 1001] μ z) ((upI μ2 49 1 ((μ2.1 49 1) + 1))) (fun μ3 : Mm => μ3) (fun μ3 eμ3 => ?_)
  have fμ3 : Fs [50, 1001] μ μ3 := by
    rw [eμ3]
    exact (Fs.upF fμ2 (by simp))
  exact fμ3
set_option maxRecDepth 20000 in
set_option maxHeartbeats 400000 in
theorem fs_X12_forget  (μ : Mm) : Fs [1000, 1031] μ (e_X12_forget  μ) := by
  unfold e_X12_forget
  refine lt_ (P := fun z => Fs [1000, 1031] μ z) ((upI μ 49 0 0)) (fun μ1 : Mm => (let μ2 : Mm := (upI μ1 49 31 0); μ2)) (fun μ1 eμ1 => ?_)
  have fμ1 : Fs [1000, 1031] μ μ1 := by
    rw [eμ1]
    exact (Fs.upF Fs.rfl (by simp))
  refine lt_ (P := fun z => Fs [1000, 1031] μ z) ((upI μ1 49 31 0)) (fun μ2 : Mm => μ2) (fun μ2 eμ2 => ?_)
  have fμ2 : Fs [1000, 1031] μ μ2 := by
    rw [eμ2]
    exact (Fs.upF fμ1 (by simp))
  exact fμ2
set_option maxRecDepth 20000 in
set_option maxHeartbeats 400000 in
theorem fs_X12_refuse  (μ : Mm) : Fs [1000] μ (e_X12_refuse  μ) := by
  unfold e_X12_refuse
  refine lt_ (P := fun z => Fs [1000] μ z) ((upI μ 49 0 1)) (fun μ1 : Mm => μ1) (fun μ1 eμ1 => ?_)
  have fμ1 : Fs [1000] μ μ1 := by
    rw [eμ1]
    exact (Fs.upF Fs.rfl (by simp))
  exact fμ1
set_option maxRecDepth 20000 in
set_option maxHeartbeats 400000 in
theorem fs_X12_begins (p0 : Int32) (μ : Mm) : Fs [1009, 1010, 1011, 1012] μ (e_X12_begins p0 μ) := by
  unfold e_X12_begins
  refine lt_ (P := fun z => Fs [1009, 1010, 1011, 1012] μ z) ((upI μ 49 9 0)) (fun μ1 : Mm => (let μ2 : Mm := (upI μ1 49 10 0); (let μ3 : Mm := (upI μ2 49 12 0); (let μ4 : Mm := (upI μ3 49 11 (if p0 < (μ.1 49 9) then p0 else (μ.1 49 9))); μ4)))) (fun μ1 eμ1 => ?_)
  have fμ1 : Fs [1009, 1010, 1011, 1012] μ μ1 := by
    rw [eμ1]
    exact (Fs.upF Fs.rfl (by simp))
  refine lt_ (P := fun z => Fs [1009, 1010, 1011, 1012] μ z) ((upI μ1 49 10 0)) (fun μ2 : Mm => (let μ3 : Mm := (upI μ2 49 12 0); (let μ4 : Mm := (upI μ3 49 11 (if p0 < (μ.1 49 9) then p0 else (μ.1 49 9))); μ4))) (fun μ2 eμ2 => ?_)
  have fμ2 : Fs [1009, 1010, 1011, 1012] μ μ2 := by
    rw [eμ2]
    exact (Fs.upF fμ1 (by simp))
  refine lt_ (P := fun z => Fs [1009, 1010, 1011, 1012] μ z) ((upI μ2 49 12 0)) (fun μ3 : Mm => (let μ4 : Mm := (upI μ3 49 11 (if p0 < (μ.1 49 9) then p0 else (μ.1 49 9))); μ4)) (fun μ3 eμ3 => ?_)
  have fμ3 : Fs [1009, 1010, 1011, 1012] μ μ3 := by
    rw [eμ3]
    exact (Fs.upF fμ2 (by simp))
  refine lt_ (P := fun z => Fs [1009, 1010, 1011, 1012] μ z) ((upI μ3 49 11 (if p0 < (μ.1 49 9) then p0 else (μ.1 49 9)))) (fun μ4 : Mm => μ4) (fun μ4 eμ4 => ?_)
  have fμ4 : Fs [1009, 1010, 1011, 1012] μ μ4 := by
    rw [eμ4]
    exact (Fs.upF fμ3 (by simp))
  exact fμ4
set_option maxRecDepth 20000 in
set_option maxHeartbeats 400000 in
theorem fs_X12_digitIn (p0 : Int32) (p1 : Int32) (μ : Mm) : Fs [1010] μ (e_X12_digitIn p0 p1 μ) := by
  unfold e_X12_digitIn
  refine Fs.ite ?_ ?_
  · exact Fs.rfl
  · refine Fs.ite ?_ ?_
    · exact Fs.rfl
    · refine lt_ (P := fun z => Fs [1010] μ z) ((upI μ 49 10 ((μ.1 49 10) + 1))) (fun μ4 : Mm => μ4) (fun μ4 eμ4 => ?_)
      have fμ4 : Fs [1010] μ μ4 := by
        rw [eμ4]
        exact (Fs.upF Fs.rfl (by simp))
      exact fμ4
set_option maxRecDepth 20000 in
set_option maxHeartbeats 400000 in
theorem fs_X12_end (p0 : Int32) (μ : Mm) : Fs [1000, 1009] μ (e_X12_end p0 μ) := by
  unfold e_X12_end
  refine lt_ (P := fun z => Fs [1000, 1009] μ z) ((upI μ 49 0 0)) (fun μ1 : Mm => (if (v_X12_in (Int32.toInt64 p0) 0 (Int32.toInt64 (μ1.1 49 9))) = 0 then μ1 else (let μ3 : Mm := (upI μ1 49 9 p0); μ3))) (fun μ1 eμ1 => ?_)
  have fμ1 : Fs [1000, 1009] μ μ1 := by
    rw [eμ1]
    exact (Fs.upF Fs.rfl (by simp))
  refine Fs.ite ?_ ?_
  · exact fμ1
  · refine lt_ (P := fun z => Fs [1000, 1009] μ z) ((upI μ1 49 9 p0)) (fun μ3 : Mm => μ3) (fun μ3 eμ3 => ?_)
    have fμ3 : Fs [1000, 1009] μ μ3 := by
      rw [eμ3]
      exact (Fs.upF fμ1 (by simp))
    exact fμ3
set_option maxRecDepth 20000 in
set_option maxHeartbeats 400000 in
theorem fs_X12_entersFewest (p0 : Int32) (μ : Mm) : Fs [50, 1001] μ (e_X12_entersFewest p0 μ) := by
  unfold e_X12_entersFewest
  refine Fs.ite ?_ ?_
  · refine lt_ (P := fun z => Fs [50, 1001] μ z) ((upI μ 49 1 0)) (fun μ2 : Mm => (let μ4 : Mm := (e_X12_enters (Int32.toInt64 p0) μ2); μ4)) (fun μ2 eμ2 => ?_)
    have fμ2 : Fs [50, 1001] μ μ2 := by
      rw [eμ2]
      exact (Fs.upF Fs.rfl (by simp))
    refine lt_ (P := fun z => Fs [50, 1001] μ z) ((e_X12_enters (Int32.toInt64 p0) μ2)) (fun μ4 : Mm => μ4) (fun μ4 eμ4 => ?_)
    have fμ4 : Fs [50, 1001] μ μ4 := by
      rw [eμ4]
      exact (Fs.call fμ2 (fs_X12_enters (Int32.toInt64 p0) μ2) (by simp))
    exact fμ4
  · exact Fs.rfl
set_option maxRecDepth 20000 in
set_option maxHeartbeats 400000 in
theorem fs_X12_row (p0 : Int32) (μ : Mm) : Fs [1000] μ (e_X12_row p0 μ) := by
  unfold e_X12_row
  refine lt_ (P := fun z => Fs [1000] μ z) ((upI μ 49 0 0)) (fun μ1 : Mm => (if (v_X12_in (Int32.toInt64 p0) 0 (Int32.toInt64 ((μ1.1 49 1) - 1))) = 0 then (let μ3 : Mm := (upI μ1 49 0 1); μ3) else μ1)) (fun μ1 eμ1 => ?_)
  have fμ1 : Fs [1000] μ μ1 := by
    rw [eμ1]
    exact (Fs.upF Fs.rfl (by simp))
  refine Fs.ite ?_ ?_
  · refine lt_ (P := fun z => Fs [1000] μ z) ((upI μ1 49 0 1)) (fun μ3 : Mm => μ3) (fun μ3 eμ3 => ?_)
    have fμ3 : Fs [1000] μ μ3 := by
      rw [eμ3]
      exact (Fs.upF fμ1 (by simp))
    exact fμ3
  · exact fμ1
set_option maxRecDepth 20000 in
set_option maxHeartbeats 400000 in
theorem fs_X12_takes (p0 : Int32) (μ : Mm) : Fs [1010] μ (e_X12_takes p0 μ) := by
  unfold e_X12_takes
  refine lt_ (P := fun z => Fs [1010] μ z) ((upI μ 49 10 ((μ.1 49 10) + (v_X12_flag (if (μ.1 49 11) ≤ (μ.1 49 10) then 0 else (if (μ.1 54 (Int32.toNatClampNeg (μ.1 49 10))) = p0 then 1 else 0 : Int32) : Int32))))) (fun μ5 : Mm => μ5) (fun μ5 eμ5 => ?_)
  have fμ5 : Fs [1010] μ μ5 := by
    rw [eμ5]
    exact (Fs.upF Fs.rfl (by simp))
  exact fμ5
set_option maxRecDepth 20000 in
set_option maxHeartbeats 400000 in
theorem fs_X12_heard (p0 : Int32) (p1 : Int32) (μ : Mm) : Fs [71, 72, 1000, 1036] μ (e_X12_heard p0 p1 μ) := by
  unfold e_X12_heard
  refine lt_ (P := fun z => Fs [71, 72, 1000, 1036] μ z) ((upI μ 49 0 0)) (fun μ1 : Mm => (if (v_X12_in (Int32.toInt64 p0) 0 4) = 0 then μ1 else (if (v_X12_in (Int32.toInt64 p1) (Int32.toInt64 (v_X12_lowest p0)) (Int32.toInt64 (v_X12_highest p0))) = 0 then μ1 else (if (μ1.1 49 36) = 12 then μ1 else (let μ6 : Mm := (upI μ1 71 (Int32.toNatClampNeg (μ1.1 49 36)) p0); (let μ8 : Mm := (upI μ6 72 (Int32.toNatClampNeg (μ6.1 49 36)) p1); (let μ9 : Mm := (upI μ8 49 36 ((μ8.1 49 36) + 1)); μ9))))))) (fun μ1 eμ1 => ?_)
  have fμ1 : Fs [71, 72, 1000, 1036] μ μ1 := by
    rw [eμ1]
    exact (Fs.upF Fs.rfl (by simp))
  refine Fs.ite ?_ ?_
  · exact fμ1
  · refine Fs.ite ?_ ?_
    · exact fμ1
    · refine Fs.ite ?_ ?_
      · exact fμ1
      · refine lt_ (P := fun z => Fs [71, 72, 1000, 1036] μ z) ((upI μ1 71 (Int32.toNatClampNeg (μ1.1 49 36)) p0)) (fun μ6 : Mm => (let μ8 : Mm := (upI μ6 72 (Int32.toNatClampNeg (μ6.1 49 36)) p1); (let μ9 : Mm := (upI μ8 49 36 ((μ8.1 49 36) + 1)); μ9))) (fun μ6 eμ6 => ?_)
        have fμ6 : Fs [71, 72, 1000, 1036] μ μ6 := by
          rw [eμ6]
          exact (Fs.up fμ1 (by simp))
        refine lt_ (P := fun z => Fs [71, 72, 1000, 1036] μ z) ((upI μ6 72 (Int32.toNatClampNeg (μ6.1 49 36)) p1)) (fun μ8 : Mm => (let μ9 : Mm := (upI μ8 49 36 ((μ8.1 49 36) + 1)); μ9)) (fun μ8 eμ8 => ?_)
        have fμ8 : Fs [71, 72, 1000, 1036] μ μ8 := by
          rw [eμ8]
          exact (Fs.up fμ6 (by simp))
        refine lt_ (P := fun z => Fs [71, 72, 1000, 1036] μ z) ((upI μ8 49 36 ((μ8.1 49 36) + 1))) (fun μ9 : Mm => μ9) (fun μ9 eμ9 => ?_)
        have fμ9 : Fs [71, 72, 1000, 1036] μ μ9 := by
          rw [eμ9]
          exact (Fs.upF fμ8 (by simp))
        exact fμ9
set_option maxRecDepth 20000 in
set_option maxHeartbeats 400000 in
theorem fs_X12_leadsTo (p0 : Int32) (p1 : Int32) (μ : Mm) : Fs [52] μ (e_X12_leadsTo p0 p1 μ) := by
  unfold e_X12_leadsTo
  refine Fs.ite ?_ ?_
  · exact Fs.rfl
  · refine Fs.ite ?_ ?_
    · exact Fs.rfl
    · refine lt_ (P := fun z => Fs [52] μ z) ((upI μ 52 (Int32.toNatClampNeg (7 + p0)) p1)) (fun μ5 : Mm => μ5) (fun μ5 eμ5 => ?_)
      have fμ5 : Fs [52] μ μ5 := by
        rw [eμ5]
        exact (Fs.up Fs.rfl (by simp))
      exact fμ5
set_option maxRecDepth 20000 in
set_option maxHeartbeats 400000 in
theorem fs_X12_sacksTo (p0 : Int32) (p1 : Int32) (μ : Mm) : Fs [52] μ (e_X12_sacksTo p0 p1 μ) := by
  unfold e_X12_sacksTo
  refine lt_ (P := fun z => Fs [52] μ z) ((if (v_X12_isOne p0 μ) = 0 then μ else (if (v_X12_in (Int32.toInt64 p1) 0 9) = 0 then μ else ((e_X12_becomes (14 + p0) p1 0 μ)) : Mm) : Mm)) (fun μ5 : Mm => μ5) (fun μ5 eμ5 => ?_)
  have fμ5 : Fs [52] μ μ5 := by
    rw [eμ5]
    exact (Fs.ite Fs.rfl (Fs.ite Fs.rfl (Fs.call Fs.rfl (fs_X12_becomes (14 + p0) p1 0 μ) (by simp))))
  exact fμ5
set_option maxRecDepth 20000 in
set_option maxHeartbeats 400000 in
theorem fs_X12_seen (p0 : Int32) (p1 : Int32) (p2 : Int32) (μ : Mm) : Fs [67, 68, 69, 1000, 1031] μ (e_X12_seen p0 p1 p2 μ) := by
  unfold e_X12_seen
  refine lt_ (P := fun z => Fs [67, 68, 69, 1000, 1031] μ z) ((upI μ 49 0 0)) (fun μ1 : Mm => (if (v_X12_isOne p0 μ1) = 0 then μ1 else (if (v_X12_in (Int32.toInt64 p1) 0 20) = 0 then μ1 else (if (v_X12_in (Int32.toInt64 p2) (-9) 9) = 0 then μ1 else (if (μ1.1 49 31) = 10 then μ1 else (let μ7 : Mm := (upI μ1 67 (Int32.toNatClampNeg (μ1.1 49 31)) p0); (let μ9 : Mm := (upI μ7 68 (Int32.toNatClampNeg (μ7.1 49 31)) p1); (let μ11 : Mm := (upI μ9 69 (Int32.toNatClampNeg (μ9.1 49 31)) p2); (let μ12 : Mm := (upI μ11 49 31 ((μ11.1 49 31) + 1)); μ12))))))))) (fun μ1 eμ1 => ?_)
  have fμ1 : Fs [67, 68, 69, 1000, 1031] μ μ1 := by
    rw [eμ1]
    exact (Fs.upF Fs.rfl (by simp))
  refine Fs.ite ?_ ?_
  · exact fμ1
  · refine Fs.ite ?_ ?_
    · exact fμ1
    · refine Fs.ite ?_ ?_
      · exact fμ1
      · refine Fs.ite ?_ ?_
        · exact fμ1
        · refine lt_ (P := fun z => Fs [67, 68, 69, 1000, 1031] μ z) ((upI μ1 67 (Int32.toNatClampNeg (μ1.1 49 31)) p0)) (fun μ7 : Mm => (let μ9 : Mm := (upI μ7 68 (Int32.toNatClampNeg (μ7.1 49 31)) p1); (let μ11 : Mm := (upI μ9 69 (Int32.toNatClampNeg (μ9.1 49 31)) p2); (let μ12 : Mm := (upI μ11 49 31 ((μ11.1 49 31) + 1)); μ12)))) (fun μ7 eμ7 => ?_)
          have fμ7 : Fs [67, 68, 69, 1000, 1031] μ μ7 := by
            rw [eμ7]
            exact (Fs.up fμ1 (by simp))
          refine lt_ (P := fun z => Fs [67, 68, 69, 1000, 1031] μ z) ((upI μ7 68 (Int32.toNatClampNeg (μ7.1 49 31)) p1)) (fun μ9 : Mm => (let μ11 : Mm := (upI μ9 69 (Int32.toNatClampNeg (μ9.1 49 31)) p2); (let μ12 : Mm := (upI μ11 49 31 ((μ11.1 49 31) + 1)); μ12))) (fun μ9 eμ9 => ?_)
          have fμ9 : Fs [67, 68, 69, 1000, 1031] μ μ9 := by
            rw [eμ9]
            exact (Fs.up fμ7 (by simp))
          refine lt_ (P := fun z => Fs [67, 68, 69, 1000, 1031] μ z) ((upI μ9 69 (Int32.toNatClampNeg (μ9.1 49 31)) p2)) (fun μ11 : Mm => (let μ12 : Mm := (upI μ11 49 31 ((μ11.1 49 31) + 1)); μ12)) (fun μ11 eμ11 => ?_)
          have fμ11 : Fs [67, 68, 69, 1000, 1031] μ μ11 := by
            rw [eμ11]
            exact (Fs.up fμ9 (by simp))
          refine lt_ (P := fun z => Fs [67, 68, 69, 1000, 1031] μ z) ((upI μ11 49 31 ((μ11.1 49 31) + 1))) (fun μ12 : Mm => μ12) (fun μ12 eμ12 => ?_)
          have fμ12 : Fs [67, 68, 69, 1000, 1031] μ μ12 := by
            rw [eμ12]
            exact (Fs.upF fμ11 (by simp))
          exact fμ12
set_option maxRecDepth 20000 in
set_option maxHeartbeats 400000 in
theorem fs_X12_stepsOff (p0 : Nat) (p1 : Int32) (μ : Mm) : Fs [p0] μ (e_X12_stepsOff p0 p1 μ) := by
  unfold e_X12_stepsOff
  refine Fs.ite ?_ ?_
  · exact Fs.rfl
  · refine lt_ (P := fun z => Fs [p0] μ z) ((upI μ p0 (Int32.toNatClampNeg 21) ((μ.1 p0 (Int32.toNatClampNeg 21)) ^^^ (1 <<< (p1 &&& 31))))) (fun μ2 : Mm => μ2) (fun μ2 eμ2 => ?_)
    have fμ2 : Fs [p0] μ μ2 := by
      rw [eμ2]
      exact (Fs.up Fs.rfl (by simp))
    exact fμ2
set_option maxRecDepth 20000 in
set_option maxHeartbeats 400000 in
theorem fs_X12_wishesTo (p0 : Int32) (p1 : Int32) (μ : Mm) : Fs [52] μ (e_X12_wishesTo p0 p1 μ) := by
  unfold e_X12_wishesTo
  refine lt_ (P := fun z => Fs [52] μ z) ((if (v_X12_isOne p0 μ) = 0 then μ else (if (v_X12_in (Int32.toInt64 p1) (-9) 9) = 0 then μ else ((e_X12_becomes p0 p1 100 μ)) : Mm) : Mm)) (fun μ5 : Mm => μ5) (fun μ5 eμ5 => ?_)
  have fμ5 : Fs [52] μ μ5 := by
    rw [eμ5]
    exact (Fs.ite Fs.rfl (Fs.ite Fs.rfl (Fs.call Fs.rfl (fs_X12_becomes p0 p1 100 μ) (by simp))))
  exact fμ5
set_option maxRecDepth 20000 in
set_option maxHeartbeats 400000 in
theorem fsw_X12_adds_21  (s : Int32 × Int32 × Mm) : Fs [61] (s.2.2) ((whl (fun s : Int32 × Int32 × Mm => bd_X12_adds_21  s.1 s.2.1 s.2.2) (fun s : Int32 × Int32 × Mm => (0, s.2.2)) FU s).2) := by
  have key : ∀ s : Int32 × Int32 × Mm, FsS [61] (s.2.2) (fun s : Int32 × Int32 × Mm => s.2.2) (fun r : Int32 × Mm => r.2) ((fun s : Int32 × Int32 × Mm => bd_X12_adds_21  s.1 s.2.1 s.2.2) s) := by
    rintro ⟨x1, x2, μ⟩
    show FsS [61] μ (fun s : Int32 × Int32 × Mm => s.2.2) (fun r : Int32 × Mm => r.2) (bd_X12_adds_21  x1 x2 μ)
    unfold bd_X12_adds_21
    refine FsS.ite ?_ ?_
    · exact FsS.inr Fs.rfl
    · refine lt_ (P := fun z => FsS [61] μ (fun s : Int32 × Int32 × Mm => s.2.2) (fun r : Int32 × Mm => r.2) z) ((upI μ 61 (Int32.toNatClampNeg x2) (μ.1 61 (Int32.toNatClampNeg (x2 + 24))))) (fun μ4 : Mm => .inl (x1, (x2 + 1), μ4)) (fun μ4 eμ4 => ?_)
      have fμ4 : Fs [61] μ μ4 := by
        rw [eμ4]
        exact (Fs.up Fs.rfl (by simp))
      exact FsS.inl fμ4
  exact Fs_whlK (S := [61]) (f := (fun s : Int32 × Int32 × Mm => bd_X12_adds_21  s.1 s.2.1 s.2.2)) (dd := (fun s : Int32 × Int32 × Mm => (0, s.2.2))) (fun s : Int32 × Int32 × Mm => s.2.2) (fun r : Int32 × Mm => r.2) (fun _ => rfl) key FU s
set_option maxRecDepth 20000 in
set_option maxHeartbeats 400000 in
theorem fs_X12_adds (p0 : Int32) (μ : Mm) : Fs [61, 1023] μ (e_X12_adds p0 μ) := by
  unfold e_X12_adds
  refine lt_ (P := fun z => Fs [61, 1023] μ z) ((upI μ 49 23 ((μ.1 49 23) + 1))) (fun μ1 : Mm => (let μ6 : Mm := (if (μ1.1 49 23) ≤ 15 then μ1 else ((upI ((whl (fun s : Int32 × Int32 × Mm => bd_X12_adds_21  s.1 s.2.1 s.2.2) (fun s : Int32 × Int32 × Mm => (0, s.2.2)) FU (p0, 0, μ1)).2) 49 23 ((((whl (fun s : Int32 × Int32 × Mm => bd_X12_adds_21  s.1 s.2.1 s.2.2) (fun s : Int32 × Int32 × Mm => (0, s.2.2)) FU (p0, 0, μ1)).2).1 49 23) - 1))) : Mm); μ6)) (fun μ1 eμ1 => ?_)
  have fμ1 : Fs [61, 1023] μ μ1 := by
    rw [eμ1]
    exact (Fs.upF Fs.rfl (by simp))
  refine lt_ (P := fun z => Fs [61, 1023] μ z) ((if (μ1.1 49 23) ≤ 15 then μ1 else ((upI ((whl (fun s : Int32 × Int32 × Mm => bd_X12_adds_21  s.1 s.2.1 s.2.2) (fun s : Int32 × Int32 × Mm => (0, s.2.2)) FU (p0, 0, μ1)).2) 49 23 ((((whl (fun s : Int32 × Int32 × Mm => bd_X12_adds_21  s.1 s.2.1 s.2.2) (fun s : Int32 × Int32 × Mm => (0, s.2.2)) FU (p0, 0, μ1)).2).1 49 23) - 1))) : Mm)) (fun μ6 : Mm => μ6) (fun μ6 eμ6 => ?_)
  have fμ6 : Fs [61, 1023] μ μ6 := by
    rw [eμ6]
    exact (Fs.ite fμ1 (Fs.upF (Fs.call fμ1 (fsw_X12_adds_21  _) (by simp)) (by simp)))
  exact fμ6
set_option maxRecDepth 20000 in
set_option maxHeartbeats 400000 in
theorem fsw_X12_copies_2  (s : Int32 × Mm) : Fs [53] (s.2) ((whl (fun s : Int32 × Mm => bd_X12_copies_2  s.1 s.2) (fun s : Int32 × Mm => s.2) FU s)) := by
  have key : ∀ s : Int32 × Mm, FsS [53] (s.2) (fun s : Int32 × Mm => s.2) (fun r : Mm => r) ((fun s : Int32 × Mm => bd_X12_copies_2  s.1 s.2) s) := by
    rintro ⟨x1, μ⟩
    show FsS [53] μ (fun s : Int32 × Mm => s.2) (fun r : Mm => r) (bd_X12_copies_2  x1 μ)
    unfold bd_X12_copies_2
    refine FsS.ite ?_ ?_
    · exact FsS.inr Fs.rfl
    · refine lt_ (P := fun z => FsS [53] μ (fun s : Int32 × Mm => s.2) (fun r : Mm => r) z) ((upI μ 53 (Int32.toNatClampNeg x1) (μ.1 52 (Int32.toNatClampNeg x1)))) (fun μ4 : Mm => .inl ((x1 + 1), μ4)) (fun μ4 eμ4 => ?_)
      have fμ4 : Fs [53] μ μ4 := by
        rw [eμ4]
        exact (Fs.up Fs.rfl (by simp))
      exact FsS.inl fμ4
  exact Fs_whlK (S := [53]) (f := (fun s : Int32 × Mm => bd_X12_copies_2  s.1 s.2)) (dd := (fun s : Int32 × Mm => s.2)) (fun s : Int32 × Mm => s.2) (fun r : Mm => r) (fun _ => rfl) key FU s
set_option maxRecDepth 20000 in
set_option maxHeartbeats 400000 in
theorem fs_X12_copies  (μ : Mm) : Fs [53] μ (e_X12_copies  μ) := by
  unfold e_X12_copies
  refine lt_ (P := fun z => Fs [53] μ z) (whl (fun s : Int32 × Mm => bd_X12_copies_2  s.1 s.2) (fun s : Int32 × Mm => s.2) FU (0, μ)) (fun r2 : Mm => r2) (fun r2 er2 => ?_)
  have fr2 : Fs [53] μ r2 := by
    rw [er2]
    exact Fs.call Fs.rfl (fsw_X12_copies_2  _) (by simp)
  exact fr2
set_option maxRecDepth 20000 in
set_option maxHeartbeats 400000 in
theorem fsw_X12_laysCode_7 (p0 : Nat) (s : Int32 × Int32 × Mm) : Fs [57] (s.2.2) ((whl (fun s : Int32 × Int32 × Mm => bd_X12_laysCode_7 p0 s.1 s.2.1 s.2.2) (fun s : Int32 × Int32 × Mm => s.2.2) FU s)) := by
  have key : ∀ s : Int32 × Int32 × Mm, FsS [57] (s.2.2) (fun s : Int32 × Int32 × Mm => s.2.2) (fun r : Mm => r) ((fun s : Int32 × Int32 × Mm => bd_X12_laysCode_7 p0 s.1 s.2.1 s.2.2) s) := by
    rintro ⟨x2, x3, μ⟩
    show FsS [57] μ (fun s : Int32 × Int32 × Mm => s.2.2) (fun r : Mm => r) (bd_X12_laysCode_7 p0 x2 x3 μ)
    unfold bd_X12_laysCode_7
    refine FsS.ite ?_ ?_
    · exact FsS.inr Fs.rfl
    · refine lt_ (P := fun z => FsS [57] μ (fun s : Int32 × Int32 × Mm => s.2.2) (fun r : Mm => r) z) ((upI μ 57 (Int32.toNatClampNeg x3) (μ.1 p0 (Int32.toNatClampNeg x3)))) (fun μ4 : Mm => .inl (x2, (x3 + 1), μ4)) (fun μ4 eμ4 => ?_)
      have fμ4 : Fs [57] μ μ4 := by
        rw [eμ4]
        exact (Fs.up Fs.rfl (by simp))
      exact FsS.inl fμ4
  exact Fs_whlK (S := [57]) (f := (fun s : Int32 × Int32 × Mm => bd_X12_laysCode_7 p0 s.1 s.2.1 s.2.2)) (dd := (fun s : Int32 × Int32 × Mm => s.2.2)) (fun s : Int32 × Int32 × Mm => s.2.2) (fun r : Mm => r) (fun _ => rfl) key FU s
set_option maxRecDepth 20000 in
set_option maxHeartbeats 400000 in
theorem fs_X12_laysCode (p0 : Nat) (p1 : Int32) (μ : Mm) : Fs [57, 1019] μ (e_X12_laysCode p0 p1 μ) := by
  unfold e_X12_laysCode
  refine lt_ (P := fun z => Fs [57, 1019] μ z) ((upI μ 49 19 p1)) (fun μ1 : Mm => (let r3 : Mm := whl (fun s : Int32 × Int32 × Mm => bd_X12_laysCode_7 p0 s.1 s.2.1 s.2.2) (fun s : Int32 × Int32 × Mm => s.2.2) FU (p1, 0, μ1); r3)) (fun μ1 eμ1 => ?_)
  have fμ1 : Fs [57, 1019] μ μ1 := by
    rw [eμ1]
    exact (Fs.upF Fs.rfl (by simp))
  refine lt_ (P := fun z => Fs [57, 1019] μ z) (whl (fun s : Int32 × Int32 × Mm => bd_X12_laysCode_7 p0 s.1 s.2.1 s.2.2) (fun s : Int32 × Int32 × Mm => s.2.2) FU (p1, 0, μ1)) (fun r3 : Mm => r3) (fun r3 er3 => ?_)
  have fr3 : Fs [57, 1019] μ r3 := by
    rw [er3]
    exact Fs.call fμ1 (fsw_X12_laysCode_7 p0 _) (by simp)
  exact fr3
set_option maxRecDepth 20000 in
set_option maxHeartbeats 400000 in
theorem fsw_X12_putsBy_2  (s : Int32 × Mm) : Fs [61] (s.2) ((whl (fun s : Int32 × Mm => bd_X12_putsBy_2  s.1 s.2) (fun s : Int32 × Mm => s.2) FU s)) := by
  have key : ∀ s : Int32 × Mm, FsS [61] (s.2) (fun s : Int32 × Mm => s.2) (fun r : Mm => r) ((fun s : Int32 × Mm => bd_X12_putsBy_2  s.1 s.2) s) := by
    rintro ⟨x1, μ⟩
    show FsS [61] μ (fun s : Int32 × Mm => s.2) (fun r : Mm => r) (bd_X12_putsBy_2  x1 μ)
    unfold bd_X12_putsBy_2
    refine FsS.ite ?_ ?_
    · exact FsS.inr Fs.rfl
    · refine lt_ (P := fun z => FsS [61] μ (fun s : Int32 × Mm => s.2) (fun r : Mm => r) z) ((upI μ 61 (Int32.toNatClampNeg ((24 * (μ.1 49 23)) + x1)) (μ.1 52 (Int32.toNatClampNeg x1)))) (fun μ4 : Mm => .inl ((x1 + 1), μ4)) (fun μ4 eμ4 => ?_)
      have fμ4 : Fs [61] μ μ4 := by
        rw [eμ4]
        exact (Fs.up Fs.rfl (by simp))
      exact FsS.inl fμ4
  exact Fs_whlK (S := [61]) (f := (fun s : Int32 × Mm => bd_X12_putsBy_2  s.1 s.2)) (dd := (fun s : Int32 × Mm => s.2)) (fun s : Int32 × Mm => s.2) (fun r : Mm => r) (fun _ => rfl) key FU s
set_option maxRecDepth 20000 in
set_option maxHeartbeats 400000 in
theorem fs_X12_putsBy  (μ : Mm) : Fs [61] μ (e_X12_putsBy  μ) := by
  unfold e_X12_putsBy
  refine lt_ (P := fun z => Fs [61] μ z) (whl (fun s : Int32 × Mm => bd_X12_putsBy_2  s.1 s.2) (fun s : Int32 × Mm => s.2) FU (0, μ)) (fun r2 : Mm => r2) (fun r2 er2 => ?_)
  have fr2 : Fs [61] μ r2 := by
    rw [er2]
    exact Fs.call Fs.rfl (fsw_X12_putsBy_2  _) (by simp)
  exact fr2
set_option maxRecDepth 20000 in
set_option maxHeartbeats 400000 in
theorem fsw_X12_sign_18  (s : Int32 × Int32 × Mm) : Fs [54] (s.2.2) ((whl (fun s : Int32 × Int32 × Mm => bd_X12_sign_18  s.1 s.2.1 s.2.2) (fun s : Int32 × Int32 × Mm => s.2.2) FU s)) := by
  have key : ∀ s : Int32 × Int32 × Mm, FsS [54] (s.2.2) (fun s : Int32 × Int32 × Mm => s.2.2) (fun r : Mm => r) ((fun s : Int32 × Int32 × Mm => bd_X12_sign_18  s.1 s.2.1 s.2.2) s) := by
    rintro ⟨x1, x2, μ⟩
    show FsS [54] μ (fun s : Int32 × Int32 × Mm => s.2.2) (fun r : Mm => r) (bd_X12_sign_18  x1 x2 μ)
    unfold bd_X12_sign_18
    refine FsS.ite ?_ ?_
    · exact FsS.inr Fs.rfl
    · refine lt_ (P := fun z => FsS [54] μ (fun s : Int32 × Int32 × Mm => s.2.2) (fun r : Mm => r) z) ((upI μ 54 (Int32.toNatClampNeg ((μ.1 49 9) + x2)) ((x1 >>> ((24 - (8 * x2)) &&& 31)) &&& 255))) (fun μ3 : Mm => .inl (x1, (x2 + 1), μ3)) (fun μ3 eμ3 => ?_)
      have fμ3 : Fs [54] μ μ3 := by
        rw [eμ3]
        exact (Fs.up Fs.rfl (by simp))
      exact FsS.inl fμ3
  exact Fs_whlK (S := [54]) (f := (fun s : Int32 × Int32 × Mm => bd_X12_sign_18  s.1 s.2.1 s.2.2)) (dd := (fun s : Int32 × Int32 × Mm => s.2.2)) (fun s : Int32 × Int32 × Mm => s.2.2) (fun r : Mm => r) (fun _ => rfl) key FU s
set_option maxRecDepth 20000 in
set_option maxHeartbeats 400000 in
theorem fs_X12_sign (p0 : Int32) (μ : Mm) : Fs [54, 1000, 1009] μ (e_X12_sign p0 μ) := by
  unfold e_X12_sign
  refine lt_ (P := fun z => Fs [54, 1000, 1009] μ z) ((upI μ 49 0 0)) (fun μ1 : Mm => (if (μ1.1 49 9) ≤ 76 then (let r4 : Mm := whl (fun s : Int32 × Int32 × Mm => bd_X12_sign_18  s.1 s.2.1 s.2.2) (fun s : Int32 × Int32 × Mm => s.2.2) FU (p0, 0, μ1); (let μ5 : Mm := (upI r4 49 9 ((r4.1 49 9) + 4)); μ5)) else μ1)) (fun μ1 eμ1 => ?_)
  have fμ1 : Fs [54, 1000, 1009] μ μ1 := by
    rw [eμ1]
    exact (Fs.upF Fs.rfl (by simp))
  refine Fs.ite ?_ ?_
  · refine lt_ (P := fun z => Fs [54, 1000, 1009] μ z) (whl (fun s : Int32 × Int32 × Mm => bd_X12_sign_18  s.1 s.2.1 s.2.2) (fun s : Int32 × Int32 × Mm => s.2.2) FU (p0, 0, μ1)) (fun r4 : Mm => (let μ5 : Mm := (upI r4 49 9 ((r4.1 49 9) + 4)); μ5)) (fun r4 er4 => ?_)
    have fr4 : Fs [54, 1000, 1009] μ r4 := by
      rw [er4]
      exact Fs.call fμ1 (fsw_X12_sign_18  _) (by simp)
    refine lt_ (P := fun z => Fs [54, 1000, 1009] μ z) ((upI r4 49 9 ((r4.1 49 9) + 4))) (fun μ5 : Mm => μ5) (fun μ5 eμ5 => ?_)
    have fμ5 : Fs [54, 1000, 1009] μ μ5 := by
      rw [eμ5]
      exact (Fs.upF fr4 (by simp))
    exact fμ5
  · exact fμ1
set_option maxRecDepth 20000 in
set_option maxHeartbeats 400000 in
theorem fsw_X12_undo_26  (s : Int32 × Mm) : Fs [52] (s.2) ((whl (fun s : Int32 × Mm => bd_X12_undo_26  s.1 s.2) (fun s : Int32 × Mm => s.2) FU s)) := by
  have key : ∀ s : Int32 × Mm, FsS [52] (s.2) (fun s : Int32 × Mm => s.2) (fun r : Mm => r) ((fun s : Int32 × Mm => bd_X12_undo_26  s.1 s.2) s) := by
    rintro ⟨x1, μ⟩
    show FsS [52] μ (fun s : Int32 × Mm => s.2) (fun r : Mm => r) (bd_X12_undo_26  x1 μ)
    unfold bd_X12_undo_26
    refine FsS.ite ?_ ?_
    · exact FsS.inr Fs.rfl
    · refine lt_ (P := fun z => FsS [52] μ (fun s : Int32 × Mm => s.2) (fun r : Mm => r) z) ((upI μ 52 (Int32.toNatClampNeg x1) (μ.1 61 (Int32.toNatClampNeg ((24 * (μ.1 49 23)) + x1))))) (fun μ4 : Mm => .inl ((x1 + 1), μ4)) (fun μ4 eμ4 => ?_)
      have fμ4 : Fs [52] μ μ4 := by
        rw [eμ4]
        exact (Fs.up Fs.rfl (by simp))
      exact FsS.inl fμ4
  exact Fs_whlK (S := [52]) (f := (fun s : Int32 × Mm => bd_X12_undo_26  s.1 s.2)) (dd := (fun s : Int32 × Mm => s.2)) (fun s : Int32 × Mm => s.2) (fun r : Mm => r) (fun _ => rfl) key FU s
set_option maxRecDepth 20000 in
set_option maxHeartbeats 400000 in
theorem fs_X12_undo  (μ : Mm) : Fs [52, 1000, 1023] μ (e_X12_undo  μ) := by
  unfold e_X12_undo
  refine lt_ (P := fun z => Fs [52, 1000, 1023] μ z) ((upI μ 49 0 0)) (fun μ1 : Mm => (if (μ1.1 49 23) = 0 then μ1 else (let μ3 : Mm := (upI μ1 49 23 ((μ1.1 49 23) - 1)); (let r5 : Mm := whl (fun s : Int32 × Mm => bd_X12_undo_26  s.1 s.2) (fun s : Int32 × Mm => s.2) FU (0, μ3); r5)))) (fun μ1 eμ1 => ?_)
  have fμ1 : Fs [52, 1000, 1023] μ μ1 := by
    rw [eμ1]
    exact (Fs.upF Fs.rfl (by simp))
  refine Fs.ite ?_ ?_
  · exact fμ1
  · refine lt_ (P := fun z => Fs [52, 1000, 1023] μ z) ((upI μ1 49 23 ((μ1.1 49 23) - 1))) (fun μ3 : Mm => (let r5 : Mm := whl (fun s : Int32 × Mm => bd_X12_undo_26  s.1 s.2) (fun s : Int32 × Mm => s.2) FU (0, μ3); r5)) (fun μ3 eμ3 => ?_)
    have fμ3 : Fs [52, 1000, 1023] μ μ3 := by
      rw [eμ3]
      exact (Fs.upF fμ1 (by simp))
    refine lt_ (P := fun z => Fs [52, 1000, 1023] μ z) (whl (fun s : Int32 × Mm => bd_X12_undo_26  s.1 s.2) (fun s : Int32 × Mm => s.2) FU (0, μ3)) (fun r5 : Mm => r5) (fun r5 er5 => ?_)
    have fr5 : Fs [52, 1000, 1023] μ r5 := by
      rw [er5]
      exact Fs.call fμ3 (fsw_X12_undo_26  _) (by simp)
    exact fr5
set_option maxRecDepth 20000 in
set_option maxHeartbeats 400000 in
theorem fsw_X12_again_43  (s : Int32 × Int32 × Mm) : Fs [52] (s.2.2) ((whl (fun s : Int32 × Int32 × Mm => bd_X12_again_43  s.1 s.2.1 s.2.2) (fun s : Int32 × Int32 × Mm => s.2.2) FU s)) := by
  have key : ∀ s : Int32 × Int32 × Mm, FsS [52] (s.2.2) (fun s : Int32 × Int32 × Mm => s.2.2) (fun r : Mm => r) ((fun s : Int32 × Int32 × Mm => bd_X12_again_43  s.1 s.2.1 s.2.2) s) := by
    rintro ⟨x1, x2, μ⟩
    show FsS [52] μ (fun s : Int32 × Int32 × Mm => s.2.2) (fun r : Mm => r) (bd_X12_again_43  x1 x2 μ)
    unfold bd_X12_again_43
    refine FsS.ite ?_ ?_
    · exact FsS.inr Fs.rfl
    · refine lt_ (P := fun z => FsS [52] μ (fun s : Int32 × Int32 × Mm => s.2.2) (fun r : Mm => r) z) ((upI μ 52 (Int32.toNatClampNeg x2) (μ.1 77 (Int32.toNatClampNeg ((24 * x1) + x2))))) (fun μ4 : Mm => .inl (x1, (x2 + 1), μ4)) (fun μ4 eμ4 => ?_)
      have fμ4 : Fs [52] μ μ4 := by
        rw [eμ4]
        exact (Fs.up Fs.rfl (by simp))
      exact FsS.inl fμ4
  exact Fs_whlK (S := [52]) (f := (fun s : Int32 × Int32 × Mm => bd_X12_again_43  s.1 s.2.1 s.2.2)) (dd := (fun s : Int32 × Int32 × Mm => s.2.2)) (fun s : Int32 × Int32 × Mm => s.2.2) (fun r : Mm => r) (fun _ => rfl) key FU s
set_option maxRecDepth 20000 in
set_option maxHeartbeats 400000 in
theorem fs_X12_again (p0 : Int32) (μ : Mm) : Fs [52, 1000, 1023] μ (e_X12_again p0 μ) := by
  unfold e_X12_again
  refine lt_ (P := fun z => Fs [52, 1000, 1023] μ z) ((upI μ 49 0 0)) (fun μ1 : Mm => (if (v_X12_in (Int32.toInt64 p0) 0 2) = 0 then μ1 else (if (μ1.1 75 (Int32.toNatClampNeg p0)) = 0 then μ1 else (if (μ1.1 76 (Int32.toNatClampNeg p0)) = (μ1.1 49 4) then (let r8 : Mm := whl (fun s : Int32 × Int32 × Mm => bd_X12_again_43  s.1 s.2.1 s.2.2) (fun s : Int32 × Int32 × Mm => s.2.2) FU (p0, 0, μ1); (let μ9 : Mm := (upI r8 49 23 0); μ9)) else μ1)))) (fun μ1 eμ1 => ?_)
  have fμ1 : Fs [52, 1000, 1023] μ μ1 := by
    rw [eμ1]
    exact (Fs.upF Fs.rfl (by simp))
  refine Fs.ite ?_ ?_
  · exact fμ1
  · refine Fs.ite ?_ ?_
    · exact fμ1
    · refine Fs.ite ?_ ?_
      · refine lt_ (P := fun z => Fs [52, 1000, 1023] μ z) (whl (fun s : Int32 × Int32 × Mm => bd_X12_again_43  s.1 s.2.1 s.2.2) (fun s : Int32 × Int32 × Mm => s.2.2) FU (p0, 0, μ1)) (fun r8 : Mm => (let μ9 : Mm := (upI r8 49 23 0); μ9)) (fun r8 er8 => ?_)
        have fr8 : Fs [52, 1000, 1023] μ r8 := by
          rw [er8]
          exact Fs.call fμ1 (fsw_X12_again_43  _) (by simp)
        refine lt_ (P := fun z => Fs [52, 1000, 1023] μ z) ((upI r8 49 23 0)) (fun μ9 : Mm => μ9) (fun μ9 eμ9 => ?_)
        have fμ9 : Fs [52, 1000, 1023] μ μ9 := by
          rw [eμ9]
          exact (Fs.upF fr8 (by simp))
        exact fμ9
      · exact fμ1
set_option maxRecDepth 20000 in
set_option maxHeartbeats 400000 in
theorem fs_X12_counted (p0 : Int32) (μ : Mm) : Fs [61, 1023] μ (e_X12_counted p0 μ) := by
  unfold e_X12_counted
  refine lt_ (P := fun z => Fs [61, 1023] μ z) ((if 0 ≤ p0 then ((e_X12_adds p0 μ)) else μ : Mm)) (fun μ4 : Mm => μ4) (fun μ4 eμ4 => ?_)
  have fμ4 : Fs [61, 1023] μ μ4 := by
    rw [eμ4]
    exact (Fs.ite (Fs.call Fs.rfl (fs_X12_adds p0 μ) (by simp)) Fs.rfl)
  exact fμ4
set_option maxRecDepth 20000 in
set_option maxHeartbeats 400000 in
theorem fsw_X12_entersPlaces_2  (s : Int32 × Mm) : Fs [50, 1001] (s.2) ((whl (fun s : Int32 × Mm => bd_X12_entersPlaces_2  s.1 s.2) (fun s : Int32 × Mm => s.2) FU s)) := by
  have key : ∀ s : Int32 × Mm, FsS [50, 1001] (s.2) (fun s : Int32 × Mm => s.2) (fun r : Mm => r) ((fun s : Int32 × Mm => bd_X12_entersPlaces_2  s.1 s.2) s) := by
    rintro ⟨x1, μ⟩
    show FsS [50, 1001] μ (fun s : Int32 × Mm => s.2) (fun r : Mm => r) (bd_X12_entersPlaces_2  x1 μ)
    unfold bd_X12_entersPlaces_2
    refine FsS.ite ?_ ?_
    · exact FsS.inr Fs.rfl
    · refine lt_ (P := fun z => FsS [50, 1001] μ (fun s : Int32 × Mm => s.2) (fun r : Mm => r) z) ((e_X12_enters (Int32.toInt64 (100 + (μ.1 53 (Int32.toNatClampNeg (7 + x1))))) μ)) (fun μ4 : Mm => .inl ((x1 + 1), μ4)) (fun μ4 eμ4 => ?_)
      have fμ4 : Fs [50, 1001] μ μ4 := by
        rw [eμ4]
        exact (Fs.call Fs.rfl (fs_X12_enters (Int32.toInt64 (100 + (μ.1 53 (Int32.toNatClampNeg (7 + x1))))) μ) (by simp))
      exact FsS.inl fμ4
  exact Fs_whlK (S := [50, 1001]) (f := (fun s : Int32 × Mm => bd_X12_entersPlaces_2  s.1 s.2)) (dd := (fun s : Int32 × Mm => s.2)) (fun s : Int32 × Mm => s.2) (fun r : Mm => r) (fun _ => rfl) key FU s
set_option maxRecDepth 20000 in
set_option maxHeartbeats 400000 in
theorem fs_X12_entersPlaces  (μ : Mm) : Fs [50, 1001] μ (e_X12_entersPlaces  μ) := by
  unfold e_X12_entersPlaces
  refine lt_ (P := fun z => Fs [50, 1001] μ z) (whl (fun s : Int32 × Mm => bd_X12_entersPlaces_2  s.1 s.2) (fun s : Int32 × Mm => s.2) FU (0, μ)) (fun r2 : Mm => r2) (fun r2 er2 => ?_)
  have fr2 : Fs [50, 1001] μ r2 := by
    rw [er2]
    exact Fs.call Fs.rfl (fsw_X12_entersPlaces_2  _) (by simp)
  exact fr2
set_option maxRecDepth 20000 in
set_option maxHeartbeats 400000 in
theorem fs_X12_farthest  (μ : Mm) : Fs [50, 1000, 1001] μ (e_X12_farthest  μ) := by
  unfold e_X12_farthest
  refine lt_ (P := fun z => Fs [50, 1000, 1001] μ z) ((upI μ 49 0 0)) (fun μ1 : Mm => (let r3 : Int32 × Int32 × Int32 := whl (fun s : Int32 × Int32 × Int32 × Int32 => bd_X12_farthest_15  μ1 s.1 s.2.1 s.2.2.1 s.2.2.2) (fun _ : Int32 × Int32 × Int32 × Int32 => (0, 0, 0)) FU ((-2), (-1), 0, 0); (let μ10 : Mm := (if (r3.1) < 0 then μ1 else ((e_X12_enters (Int32.toInt64 (r3.2.2)) ((e_X12_enters (Int32.toInt64 (r3.2.1)) ((upI μ1 49 1 0)))))) : Mm); μ10))) (fun μ1 eμ1 => ?_)
  have fμ1 : Fs [50, 1000, 1001] μ μ1 := by
    rw [eμ1]
    exact (Fs.upF Fs.rfl (by simp))
  refine lt_ (P := fun z => Fs [50, 1000, 1001] μ z) (whl (fun s : Int32 × Int32 × Int32 × Int32 => bd_X12_farthest_15  μ1 s.1 s.2.1 s.2.2.1 s.2.2.2) (fun _ : Int32 × Int32 × Int32 × Int32 => (0, 0, 0)) FU ((-2), (-1), 0, 0)) (fun r3 : Int32 × Int32 × Int32 => (let μ10 : Mm := (if (r3.1) < 0 then μ1 else ((e_X12_enters (Int32.toInt64 (r3.2.2)) ((e_X12_enters (Int32.toInt64 (r3.2.1)) ((upI μ1 49 1 0)))))) : Mm); μ10)) (fun r3 er3 => ?_)
  refine lt_ (P := fun z => Fs [50, 1000, 1001] μ z) ((if (r3.1) < 0 then μ1 else ((e_X12_enters (Int32.toInt64 (r3.2.2)) ((e_X12_enters (Int32.toInt64 (r3.2.1)) ((upI μ1 49 1 0)))))) : Mm)) (fun μ10 : Mm => μ10) (fun μ10 eμ10 => ?_)
  have fμ10 : Fs [50, 1000, 1001] μ μ10 := by
    rw [eμ10]
    exact (Fs.ite fμ1 (Fs.call (Fs.call (Fs.upF fμ1 (by simp)) (fs_X12_enters (Int32.toInt64 (r3.2.1)) ((upI μ1 49 1 0))) (by simp)) (fs_X12_enters (Int32.toInt64 (r3.2.2)) ((e_X12_enters (Int32.toInt64 (r3.2.1)) ((upI μ1 49 1 0))))) (by simp)))
  exact fμ10
set_option maxRecDepth 20000 in
set_option maxHeartbeats 400000 in
theorem fsw_X12_keep_38  (s : Int32 × Int32 × Mm) : Fs [77] (s.2.2) ((whl (fun s : Int32 × Int32 × Mm => bd_X12_keep_38  s.1 s.2.1 s.2.2) (fun s : Int32 × Int32 × Mm => s.2.2) FU s)) := by
  have key : ∀ s : Int32 × Int32 × Mm, FsS [77] (s.2.2) (fun s : Int32 × Int32 × Mm => s.2.2) (fun r : Mm => r) ((fun s : Int32 × Int32 × Mm => bd_X12_keep_38  s.1 s.2.1 s.2.2) s) := by
    rintro ⟨x1, x2, μ⟩
    show FsS [77] μ (fun s : Int32 × Int32 × Mm => s.2.2) (fun r : Mm => r) (bd_X12_keep_38  x1 x2 μ)
    unfold bd_X12_keep_38
    refine FsS.ite ?_ ?_
    · exact FsS.inr Fs.rfl
    · refine lt_ (P := fun z => FsS [77] μ (fun s : Int32 × Int32 × Mm => s.2.2) (fun r : Mm => r) z) ((upI μ 77 (Int32.toNatClampNeg ((24 * x1) + x2)) (μ.1 52 (Int32.toNatClampNeg x2)))) (fun μ4 : Mm => .inl (x1, (x2 + 1), μ4)) (fun μ4 eμ4 => ?_)
      have fμ4 : Fs [77] μ μ4 := by
        rw [eμ4]
        exact (Fs.up Fs.rfl (by simp))
      exact FsS.inl fμ4
  exact Fs_whlK (S := [77]) (f := (fun s : Int32 × Int32 × Mm => bd_X12_keep_38  s.1 s.2.1 s.2.2)) (dd := (fun s : Int32 × Int32 × Mm => s.2.2)) (fun s : Int32 × Int32 × Mm => s.2.2) (fun r : Mm => r) (fun _ => rfl) key FU s
set_option maxRecDepth 20000 in
set_option maxHeartbeats 400000 in
theorem fs_X12_keep (p0 : Int32) (μ : Mm) : Fs [75, 76, 77, 1000] μ (e_X12_keep p0 μ) := by
  unfold e_X12_keep
  refine lt_ (P := fun z => Fs [75, 76, 77, 1000] μ z) ((upI μ 49 0 0)) (fun μ1 : Mm => (if (v_X12_in (Int32.toInt64 p0) 0 2) = 0 then μ1 else (let μ4 : Mm := (upI μ1 75 (Int32.toNatClampNeg p0) (vp_nar .boolean 1)); (let μ6 : Mm := (upI μ4 76 (Int32.toNatClampNeg p0) (μ4.1 49 4)); (let r8 : Mm := whl (fun s : Int32 × Int32 × Mm => bd_X12_keep_38  s.1 s.2.1 s.2.2) (fun s : Int32 × Int32 × Mm => s.2.2) FU (p0, 0, μ6); r8))))) (fun μ1 eμ1 => ?_)
  have fμ1 : Fs [75, 76, 77, 1000] μ μ1 := by
    rw [eμ1]
    exact (Fs.upF Fs.rfl (by simp))
  refine Fs.ite ?_ ?_
  · exact fμ1
  · refine lt_ (P := fun z => Fs [75, 76, 77, 1000] μ z) ((upI μ1 75 (Int32.toNatClampNeg p0) (vp_nar .boolean 1))) (fun μ4 : Mm => (let μ6 : Mm := (upI μ4 76 (Int32.toNatClampNeg p0) (μ4.1 49 4)); (let r8 : Mm := whl (fun s : Int32 × Int32 × Mm => bd_X12_keep_38  s.1 s.2.1 s.2.2) (fun s : Int32 × Int32 × Mm => s.2.2) FU (p0, 0, μ6); r8))) (fun μ4 eμ4 => ?_)
    have fμ4 : Fs [75, 76, 77, 1000] μ μ4 := by
      rw [eμ4]
      exact (Fs.up fμ1 (by simp))
    refine lt_ (P := fun z => Fs [75, 76, 77, 1000] μ z) ((upI μ4 76 (Int32.toNatClampNeg p0) (μ4.1 49 4))) (fun μ6 : Mm => (let r8 : Mm := whl (fun s : Int32 × Int32 × Mm => bd_X12_keep_38  s.1 s.2.1 s.2.2) (fun s : Int32 × Int32 × Mm => s.2.2) FU (p0, 0, μ6); r8)) (fun μ6 eμ6 => ?_)
    have fμ6 : Fs [75, 76, 77, 1000] μ μ6 := by
      rw [eμ6]
      exact (Fs.up fμ4 (by simp))
    refine lt_ (P := fun z => Fs [75, 76, 77, 1000] μ z) (whl (fun s : Int32 × Int32 × Mm => bd_X12_keep_38  s.1 s.2.1 s.2.2) (fun s : Int32 × Int32 × Mm => s.2.2) FU (p0, 0, μ6)) (fun r8 : Mm => r8) (fun r8 er8 => ?_)
    have fr8 : Fs [75, 76, 77, 1000] μ r8 := by
      rw [er8]
      exact Fs.call fμ6 (fsw_X12_keep_38  _) (by simp)
    exact fr8
set_option maxRecDepth 20000 in
set_option maxHeartbeats 400000 in
theorem fsw_X12_plank_43  (s : Int32 × Int32 × Int32 × Int32 × Mm) : Fs [73] (s.2.2.2.2) ((whl (fun s : Int32 × Int32 × Int32 × Int32 × Mm => bd_X12_plank_43  s.1 s.2.1 s.2.2.1 s.2.2.2.1 s.2.2.2.2) (fun s : Int32 × Int32 × Int32 × Int32 × Mm => (0, 0, 0, s.2.2.2.2)) FU s).2.2.2) := by
  have key : ∀ s : Int32 × Int32 × Int32 × Int32 × Mm, FsS [73] (s.2.2.2.2) (fun s : Int32 × Int32 × Int32 × Int32 × Mm => s.2.2.2.2) (fun r : Int32 × Int32 × Int32 × Mm => r.2.2.2) ((fun s : Int32 × Int32 × Int32 × Int32 × Mm => bd_X12_plank_43  s.1 s.2.1 s.2.2.1 s.2.2.2.1 s.2.2.2.2) s) := by
    rintro ⟨x1, x2, x3, x4, μ⟩
    show FsS [73] μ (fun s : Int32 × Int32 × Int32 × Int32 × Mm => s.2.2.2.2) (fun r : Int32 × Int32 × Int32 × Mm => r.2.2.2) (bd_X12_plank_43  x1 x2 x3 x4 μ)
    unfold bd_X12_plank_43
    refine FsS.ite ?_ ?_
    · exact FsS.inr Fs.rfl
    · refine lt_ (P := fun z => FsS [73] μ (fun s : Int32 × Int32 × Int32 × Int32 × Mm => s.2.2.2.2) (fun r : Int32 × Int32 × Int32 × Mm => r.2.2.2) z) (whl (fun s : Int32 × Int32 × Int32 × Int32 × Int32 × Int32 => bd_X12_plank_60  μ s.1 s.2.1 s.2.2.1 s.2.2.2.1 s.2.2.2.2.1 s.2.2.2.2.2) (fun _ : Int32 × Int32 × Int32 × Int32 × Int32 × Int32 => (0, 0, 0, 0, 0)) FU (x1, x2, x3, x4, 0, (if x3 < x2 then x3 else x2))) (fun r3 : Int32 × Int32 × Int32 × Int32 × Int32 => (let μ5 : Mm := (upI μ 73 (Int32.toNatClampNeg ((10 * (r3.2.2.1)) + (r3.2.2.2.1))) (r3.2.2.2.2)); .inl ((r3.1), (r3.2.1), (r3.2.2.1), ((r3.2.2.2.1) + 1), μ5))) (fun r3 er3 => ?_)
      refine lt_ (P := fun z => FsS [73] μ (fun s : Int32 × Int32 × Int32 × Int32 × Mm => s.2.2.2.2) (fun r : Int32 × Int32 × Int32 × Mm => r.2.2.2) z) ((upI μ 73 (Int32.toNatClampNeg ((10 * (r3.2.2.1)) + (r3.2.2.2.1))) (r3.2.2.2.2))) (fun μ5 : Mm => .inl ((r3.1), (r3.2.1), (r3.2.2.1), ((r3.2.2.2.1) + 1), μ5)) (fun μ5 eμ5 => ?_)
      have fμ5 : Fs [73] μ μ5 := by
        rw [eμ5]
        exact (Fs.up Fs.rfl (by simp))
      exact FsS.inl fμ5
  exact Fs_whlK (S := [73]) (f := (fun s : Int32 × Int32 × Int32 × Int32 × Mm => bd_X12_plank_43  s.1 s.2.1 s.2.2.1 s.2.2.2.1 s.2.2.2.2)) (dd := (fun s : Int32 × Int32 × Int32 × Int32 × Mm => (0, 0, 0, s.2.2.2.2))) (fun s : Int32 × Int32 × Int32 × Int32 × Mm => s.2.2.2.2) (fun r : Int32 × Int32 × Int32 × Mm => r.2.2.2) (fun _ => rfl) key FU s
set_option maxRecDepth 20000 in
set_option maxHeartbeats 400000 in
theorem fsw_X12_plank_35  (s : Int32 × Int32 × Int32 × Mm) : Fs [73] (s.2.2.2) ((whl (fun s : Int32 × Int32 × Int32 × Mm => bd_X12_plank_35  s.1 s.2.1 s.2.2.1 s.2.2.2) (fun s : Int32 × Int32 × Int32 × Mm => (0, s.2.2.2)) FU s).2) := by
  have key : ∀ s : Int32 × Int32 × Int32 × Mm, FsS [73] (s.2.2.2) (fun s : Int32 × Int32 × Int32 × Mm => s.2.2.2) (fun r : Int32 × Mm => r.2) ((fun s : Int32 × Int32 × Int32 × Mm => bd_X12_plank_35  s.1 s.2.1 s.2.2.1 s.2.2.2) s) := by
    rintro ⟨x1, x2, x3, μ⟩
    show FsS [73] μ (fun s : Int32 × Int32 × Int32 × Mm => s.2.2.2) (fun r : Int32 × Mm => r.2) (bd_X12_plank_35  x1 x2 x3 μ)
    unfold bd_X12_plank_35
    refine FsS.ite ?_ ?_
    · exact FsS.inr Fs.rfl
    · refine lt_ (P := fun z => FsS [73] μ (fun s : Int32 × Int32 × Int32 × Mm => s.2.2.2) (fun r : Int32 × Mm => r.2) z) (whl (fun s : Int32 × Int32 × Int32 × Int32 × Mm => bd_X12_plank_43  s.1 s.2.1 s.2.2.1 s.2.2.2.1 s.2.2.2.2) (fun s : Int32 × Int32 × Int32 × Int32 × Mm => (0, 0, 0, s.2.2.2.2)) FU (x1, x2, x3, 0, μ)) (fun r3 : Int32 × Int32 × Int32 × Mm => .inl ((r3.1), (r3.2.1), ((r3.2.2.1) + 1), (r3.2.2.2))) (fun r3 er3 => ?_)
      have fr3 : Fs [73] μ (r3.2.2.2) := by
        rw [er3]
        exact Fs.call Fs.rfl (fsw_X12_plank_43  _) (by simp)
      exact FsS.inl fr3
  exact Fs_whlK (S := [73]) (f := (fun s : Int32 × Int32 × Int32 × Mm => bd_X12_plank_35  s.1 s.2.1 s.2.2.1 s.2.2.2)) (dd := (fun s : Int32 × Int32 × Int32 × Mm => (0, s.2.2.2))) (fun s : Int32 × Int32 × Int32 × Mm => s.2.2.2) (fun r : Int32 × Mm => r.2) (fun _ => rfl) key FU s
set_option maxRecDepth 20000 in
set_option maxHeartbeats 400000 in
theorem fs_X12_plank (p0 : Int32) (p1 : Int32) (μ : Mm) : Fs [73, 1000] μ (e_X12_plank p0 p1 μ) := by
  unfold e_X12_plank
  refine lt_ (P := fun z => Fs [73, 1000] μ z) ((upI μ 49 0 0)) (fun μ1 : Mm => (if (v_X12_in (Int32.toInt64 p0) 0 60) = 0 then μ1 else (if (v_X12_in (Int32.toInt64 p1) 2 9) = 0 then μ1 else (let r5 : Int32 × Mm := whl (fun s : Int32 × Int32 × Int32 × Mm => bd_X12_plank_35  s.1 s.2.1 s.2.2.1 s.2.2.2) (fun s : Int32 × Int32 × Int32 × Mm => (0, s.2.2.2)) FU (p0, p1, 0, μ1); (r5.2))))) (fun μ1 eμ1 => ?_)
  have fμ1 : Fs [73, 1000] μ μ1 := by
    rw [eμ1]
    exact (Fs.upF Fs.rfl (by simp))
  refine Fs.ite ?_ ?_
  · exact fμ1
  · refine Fs.ite ?_ ?_
    · exact fμ1
    · refine lt_ (P := fun z => Fs [73, 1000] μ z) (whl (fun s : Int32 × Int32 × Int32 × Mm => bd_X12_plank_35  s.1 s.2.1 s.2.2.1 s.2.2.2) (fun s : Int32 × Int32 × Int32 × Mm => (0, s.2.2.2)) FU (p0, p1, 0, μ1)) (fun r5 : Int32 × Mm => (r5.2)) (fun r5 er5 => ?_)
      have fr5 : Fs [73, 1000] μ (r5.2) := by
        rw [er5]
        exact Fs.call fμ1 (fsw_X12_plank_35  _) (by simp)
      exact fr5
set_option maxRecDepth 20000 in
set_option maxHeartbeats 400000 in
theorem fsw_X12_sheet_46  (s : Int32 × Int32 × Int32 × Int32 × Int32 × Int32 × Mm) : Fs [51] (s.2.2.2.2.2.2) ((whl (fun s : Int32 × Int32 × Int32 × Int32 × Int32 × Int32 × Mm => bd_X12_sheet_46  s.1 s.2.1 s.2.2.1 s.2.2.2.1 s.2.2.2.2.1 s.2.2.2.2.2.1 s.2.2.2.2.2.2) (fun s : Int32 × Int32 × Int32 × Int32 × Int32 × Int32 × Mm => (0, 0, s.2.2.2.2.2.2)) FU s).2.2) := by
  have key : ∀ s : Int32 × Int32 × Int32 × Int32 × Int32 × Int32 × Mm, FsS [51] (s.2.2.2.2.2.2) (fun s : Int32 × Int32 × Int32 × Int32 × Int32 × Int32 × Mm => s.2.2.2.2.2.2) (fun r : Int32 × Int32 × Mm => r.2.2) ((fun s : Int32 × Int32 × Int32 × Int32 × Int32 × Int32 × Mm => bd_X12_sheet_46  s.1 s.2.1 s.2.2.1 s.2.2.2.1 s.2.2.2.2.1 s.2.2.2.2.2.1 s.2.2.2.2.2.2) s) := by
    rintro ⟨x1, x2, x4, x5, x6, x7, μ⟩
    show FsS [51] μ (fun s : Int32 × Int32 × Int32 × Int32 × Int32 × Int32 × Mm => s.2.2.2.2.2.2) (fun r : Int32 × Int32 × Mm => r.2.2) (bd_X12_sheet_46  x1 x2 x4 x5 x6 x7 μ)
    unfold bd_X12_sheet_46
    refine FsS.ite ?_ ?_
    · exact FsS.inr Fs.rfl
    · refine lt_ (P := fun z => FsS [51] μ (fun s : Int32 × Int32 × Int32 × Int32 × Int32 × Int32 × Mm => s.2.2.2.2.2.2) (fun r : Int32 × Int32 × Mm => r.2.2) z) ((upI μ 51 (Int32.toNatClampNeg x7) (if x1 = 3 then 1 else (if x7 < x2 then (if 1 < (if (if x1 = 0 then (Int32.toInt8 x6).toInt32 else (if x1 = 1 then (Int32.toInt16 x6).toInt32 else x6 : Int32) : Int32) < 9 then (if x1 = 0 then (Int32.toInt8 x6).toInt32 else (if x1 = 1 then (Int32.toInt16 x6).toInt32 else x6 : Int32) : Int32) else 9) then (if (if x1 = 0 then (Int32.toInt8 x6).toInt32 else (if x1 = 1 then (Int32.toInt16 x6).toInt32 else x6 : Int32) : Int32) < 9 then (if x1 = 0 then (Int32.toInt8 x6).toInt32 else (if x1 = 1 then (Int32.toInt16 x6).toInt32 else x6 : Int32) : Int32) else 9) else 1) else 1 : Int32) : Int32))) (fun μ9 : Mm => .inl (x1, x2, x4, (x5 + (μ9.1 51 (Int32.toNatClampNeg x7))), (x6 + x4), (x7 + 1), μ9)) (fun μ9 eμ9 => ?_)
      have fμ9 : Fs [51] μ μ9 := by
        rw [eμ9]
        exact (Fs.up Fs.rfl (by simp))
      exact FsS.inl fμ9
  exact Fs_whlK (S := [51]) (f := (fun s : Int32 × Int32 × Int32 × Int32 × Int32 × Int32 × Mm => bd_X12_sheet_46  s.1 s.2.1 s.2.2.1 s.2.2.2.1 s.2.2.2.2.1 s.2.2.2.2.2.1 s.2.2.2.2.2.2)) (dd := (fun s : Int32 × Int32 × Int32 × Int32 × Int32 × Int32 × Mm => (0, 0, s.2.2.2.2.2.2))) (fun s : Int32 × Int32 × Int32 × Int32 × Int32 × Int32 × Mm => s.2.2.2.2.2.2) (fun r : Int32 × Int32 × Mm => r.2.2) (fun _ => rfl) key FU s
set_option maxRecDepth 20000 in
set_option maxHeartbeats 400000 in
theorem fs_X12_sheet (p0 : Int32) (p1 : Int32) (p2 : Int32) (p3 : Int32) (μ : Mm) : Fs [51, 1000] μ (e_X12_sheet p0 p1 p2 p3 μ) := by
  unfold e_X12_sheet
  refine lt_ (P := fun z => Fs [51, 1000] μ z) ((upI μ 49 0 0)) (fun μ1 : Mm => (if (v_X12_in (Int32.toInt64 p0) 0 3) = 0 then μ1 else (if p1 ≤ 7 then (if p0 = 3 then (let r6 : Int32 × Int32 × Mm := whl (fun s : Int32 × Int32 × Int32 × Int32 × Int32 × Int32 × Mm => bd_X12_sheet_46  s.1 s.2.1 s.2.2.1 s.2.2.2.1 s.2.2.2.2.1 s.2.2.2.2.2.1 s.2.2.2.2.2.2) (fun s : Int32 × Int32 × Int32 × Int32 × Int32 × Int32 × Mm => (0, 0, s.2.2.2.2.2.2)) FU (p0, p1, p3, 0, p2, 0, μ1); (r6.2.2)) else (if 0 ≤ p1 then (let r11 : Int32 × Int32 × Mm := whl (fun s : Int32 × Int32 × Int32 × Int32 × Int32 × Int32 × Mm => bd_X12_sheet_46  s.1 s.2.1 s.2.2.1 s.2.2.2.1 s.2.2.2.2.1 s.2.2.2.2.2.1 s.2.2.2.2.2.2) (fun s : Int32 × Int32 × Int32 × Int32 × Int32 × Int32 × Mm => (0, 0, s.2.2.2.2.2.2)) FU (p0, p1, p3, 0, p2, 0, μ1); (r11.2.2)) else μ1)) else μ1))) (fun μ1 eμ1 => ?_)
  have fμ1 : Fs [51, 1000] μ μ1 := by
    rw [eμ1]
    exact (Fs.upF Fs.rfl (by simp))
  refine Fs.ite ?_ ?_
  · exact fμ1
  · refine Fs.ite ?_ ?_
    · refine Fs.ite ?_ ?_
      · refine lt_ (P := fun z => Fs [51, 1000] μ z) (whl (fun s : Int32 × Int32 × Int32 × Int32 × Int32 × Int32 × Mm => bd_X12_sheet_46  s.1 s.2.1 s.2.2.1 s.2.2.2.1 s.2.2.2.2.1 s.2.2.2.2.2.1 s.2.2.2.2.2.2) (fun s : Int32 × Int32 × Int32 × Int32 × Int32 × Int32 × Mm => (0, 0, s.2.2.2.2.2.2)) FU (p0, p1, p3, 0, p2, 0, μ1)) (fun r6 : Int32 × Int32 × Mm => (r6.2.2)) (fun r6 er6 => ?_)
        have fr6 : Fs [51, 1000] μ (r6.2.2) := by
          rw [er6]
          exact Fs.call fμ1 (fsw_X12_sheet_46  _) (by simp)
        exact fr6
      · refine Fs.ite ?_ ?_
        · refine lt_ (P := fun z => Fs [51, 1000] μ z) (whl (fun s : Int32 × Int32 × Int32 × Int32 × Int32 × Int32 × Mm => bd_X12_sheet_46  s.1 s.2.1 s.2.2.1 s.2.2.2.1 s.2.2.2.2.1 s.2.2.2.2.2.1 s.2.2.2.2.2.2) (fun s : Int32 × Int32 × Int32 × Int32 × Int32 × Int32 × Mm => (0, 0, s.2.2.2.2.2.2)) FU (p0, p1, p3, 0, p2, 0, μ1)) (fun r11 : Int32 × Int32 × Mm => (r11.2.2)) (fun r11 er11 => ?_)
          have fr11 : Fs [51, 1000] μ (r11.2.2) := by
            rw [er11]
            exact Fs.call fμ1 (fsw_X12_sheet_46  _) (by simp)
          exact fr11
        · exact fμ1
    · exact fμ1
set_option maxRecDepth 20000 in
set_option maxHeartbeats 400000 in
theorem fsw_X12_crossings_37  (s : Int32 × Int32 × Int32 × Int32 × Mm) : Fs [50, 1001] (s.2.2.2.2) ((whl (fun s : Int32 × Int32 × Int32 × Int32 × Mm => bd_X12_crossings_37  s.1 s.2.1 s.2.2.1 s.2.2.2.1 s.2.2.2.2) (fun s : Int32 × Int32 × Int32 × Int32 × Mm => (0, 0, 0, s.2.2.2.2)) FU s).2.2.2) := by
  have key : ∀ s : Int32 × Int32 × Int32 × Int32 × Mm, FsS [50, 1001] (s.2.2.2.2) (fun s : Int32 × Int32 × Int32 × Int32 × Mm => s.2.2.2.2) (fun r : Int32 × Int32 × Int32 × Mm => r.2.2.2) ((fun s : Int32 × Int32 × Int32 × Int32 × Mm => bd_X12_crossings_37  s.1 s.2.1 s.2.2.1 s.2.2.2.1 s.2.2.2.2) s) := by
    rintro ⟨x1, x2, x3, x4, μ⟩
    show FsS [50, 1001] μ (fun s : Int32 × Int32 × Int32 × Int32 × Mm => s.2.2.2.2) (fun r : Int32 × Int32 × Int32 × Mm => r.2.2.2) (bd_X12_crossings_37  x1 x2 x3 x4 μ)
    unfold bd_X12_crossings_37
    refine FsS.ite ?_ ?_
    · exact FsS.inr Fs.rfl
    · refine lt_ (P := fun z => FsS [50, 1001] μ (fun s : Int32 × Int32 × Int32 × Int32 × Mm => s.2.2.2.2) (fun r : Int32 × Int32 × Int32 × Mm => r.2.2.2) z) ((if (v_X12_isRest x3 x4 x1 μ) = 0 then μ else (if (v_X12_isRest x4 x3 x1 μ) = 0 then μ else ((if x2 = 0 then ((e_X12_enters (Int32.toInt64 x4) ((e_X12_enters (Int32.toInt64 x3) μ)))) else μ : Mm)) : Mm) : Mm)) (fun μ13 : Mm => .inl (x1, (if (v_X12_isRest x3 x4 x1 μ) = 0 then x2 else (if (v_X12_isRest x4 x3 x1 μ) = 0 then x2 else (x2 + 1) : Int32) : Int32), x3, (x4 + 1), μ13)) (fun μ13 eμ13 => ?_)
      have fμ13 : Fs [50, 1001] μ μ13 := by
        rw [eμ13]
        exact (Fs.ite Fs.rfl (Fs.ite Fs.rfl (Fs.ite (Fs.call (Fs.call Fs.rfl (fs_X12_enters (Int32.toInt64 x3) μ) (by simp)) (fs_X12_enters (Int32.toInt64 x4) ((e_X12_enters (Int32.toInt64 x3) μ))) (by simp)) Fs.rfl)))
      exact FsS.inl fμ13
  exact Fs_whlK (S := [50, 1001]) (f := (fun s : Int32 × Int32 × Int32 × Int32 × Mm => bd_X12_crossings_37  s.1 s.2.1 s.2.2.1 s.2.2.2.1 s.2.2.2.2)) (dd := (fun s : Int32 × Int32 × Int32 × Int32 × Mm => (0, 0, 0, s.2.2.2.2))) (fun s : Int32 × Int32 × Int32 × Int32 × Mm => s.2.2.2.2) (fun r : Int32 × Int32 × Int32 × Mm => r.2.2.2) (fun _ => rfl) key FU s
set_option maxRecDepth 20000 in
set_option maxHeartbeats 400000 in
theorem fsw_X12_crossings_28  (s : Int32 × Int32 × Int32 × Mm) : Fs [50, 1001] (s.2.2.2) ((whl (fun s : Int32 × Int32 × Int32 × Mm => bd_X12_crossings_28  s.1 s.2.1 s.2.2.1 s.2.2.2) (fun s : Int32 × Int32 × Int32 × Mm => (0, s.2.2.2)) FU s).2) := by
  have key : ∀ s : Int32 × Int32 × Int32 × Mm, FsS [50, 1001] (s.2.2.2) (fun s : Int32 × Int32 × Int32 × Mm => s.2.2.2) (fun r : Int32 × Mm => r.2) ((fun s : Int32 × Int32 × Int32 × Mm => bd_X12_crossings_28  s.1 s.2.1 s.2.2.1 s.2.2.2) s) := by
    rintro ⟨x1, x2, x3, μ⟩
    show FsS [50, 1001] μ (fun s : Int32 × Int32 × Int32 × Mm => s.2.2.2) (fun r : Int32 × Mm => r.2) (bd_X12_crossings_28  x1 x2 x3 μ)
    unfold bd_X12_crossings_28
    refine FsS.ite ?_ ?_
    · exact FsS.inr Fs.rfl
    · refine lt_ (P := fun z => FsS [50, 1001] μ (fun s : Int32 × Int32 × Int32 × Mm => s.2.2.2) (fun r : Int32 × Mm => r.2) z) (whl (fun s : Int32 × Int32 × Int32 × Int32 × Mm => bd_X12_crossings_37  s.1 s.2.1 s.2.2.1 s.2.2.2.1 s.2.2.2.2) (fun s : Int32 × Int32 × Int32 × Int32 × Mm => (0, 0, 0, s.2.2.2.2)) FU (x1, x2, x3, 0, μ)) (fun r3 : Int32 × Int32 × Int32 × Mm => .inl ((r3.1), (r3.2.1), ((r3.2.2.1) + 1), (r3.2.2.2))) (fun r3 er3 => ?_)
      have fr3 : Fs [50, 1001] μ (r3.2.2.2) := by
        rw [er3]
        exact Fs.call Fs.rfl (fsw_X12_crossings_37  _) (by simp)
      exact FsS.inl fr3
  exact Fs_whlK (S := [50, 1001]) (f := (fun s : Int32 × Int32 × Int32 × Mm => bd_X12_crossings_28  s.1 s.2.1 s.2.2.1 s.2.2.2)) (dd := (fun s : Int32 × Int32 × Int32 × Mm => (0, s.2.2.2))) (fun s : Int32 × Int32 × Int32 × Mm => s.2.2.2) (fun r : Int32 × Mm => r.2) (fun _ => rfl) key FU s
set_option maxRecDepth 20000 in
set_option maxHeartbeats 400000 in
theorem fs_X12_crossings (p0 : Int32) (μ : Mm) : Fs [50, 1000, 1001] μ (e_X12_crossings p0 μ) := by
  unfold e_X12_crossings
  refine lt_ (P := fun z => Fs [50, 1000, 1001] μ z) ((upI μ 49 0 0)) (fun μ1 : Mm => (if (v_X12_in (Int32.toInt64 p0) 0 20) = 0 then μ1 else (let μ3 : Mm := (upI μ1 49 1 0); (let r5 : Int32 × Mm := whl (fun s : Int32 × Int32 × Int32 × Mm => bd_X12_crossings_28  s.1 s.2.1 s.2.2.1 s.2.2.2) (fun s : Int32 × Int32 × Int32 × Mm => (0, s.2.2.2)) FU (p0, 0, 0, μ3); (r5.2))))) (fun μ1 eμ1 => ?_)
  have fμ1 : Fs [50, 1000, 1001] μ μ1 := by
    rw [eμ1]
    exact (Fs.upF Fs.rfl (by simp))
  refine Fs.ite ?_ ?_
  · exact fμ1
  · refine lt_ (P := fun z => Fs [50, 1000, 1001] μ z) ((upI μ1 49 1 0)) (fun μ3 : Mm => (let r5 : Int32 × Mm := whl (fun s : Int32 × Int32 × Int32 × Mm => bd_X12_crossings_28  s.1 s.2.1 s.2.2.1 s.2.2.2) (fun s : Int32 × Int32 × Int32 × Mm => (0, s.2.2.2)) FU (p0, 0, 0, μ3); (r5.2))) (fun μ3 eμ3 => ?_)
    have fμ3 : Fs [50, 1000, 1001] μ μ3 := by
      rw [eμ3]
      exact (Fs.upF fμ1 (by simp))
    refine lt_ (P := fun z => Fs [50, 1000, 1001] μ z) (whl (fun s : Int32 × Int32 × Int32 × Mm => bd_X12_crossings_28  s.1 s.2.1 s.2.2.1 s.2.2.2) (fun s : Int32 × Int32 × Int32 × Mm => (0, s.2.2.2)) FU (p0, 0, 0, μ3)) (fun r5 : Int32 × Mm => (r5.2)) (fun r5 er5 => ?_)
    have fr5 : Fs [50, 1000, 1001] μ (r5.2) := by
      rw [er5]
      exact Fs.call fμ3 (fsw_X12_crossings_28  _) (by simp)
    exact fr5
set_option maxRecDepth 20000 in
set_option maxHeartbeats 400000 in
theorem fsw_X12_laysWon_2  (s : Int32 × Int32 × Mm) : Fs [66] (s.2.2) ((whl (fun s : Int32 × Int32 × Mm => bd_X12_laysWon_2  s.1 s.2.1 s.2.2) (fun s : Int32 × Int32 × Mm => (0, s.2.2)) FU s).2) := by
  have key : ∀ s : Int32 × Int32 × Mm, FsS [66] (s.2.2) (fun s : Int32 × Int32 × Mm => s.2.2) (fun r : Int32 × Mm => r.2) ((fun s : Int32 × Int32 × Mm => bd_X12_laysWon_2  s.1 s.2.1 s.2.2) s) := by
    rintro ⟨x1, x2, μ⟩
    show FsS [66] μ (fun s : Int32 × Int32 × Mm => s.2.2) (fun r : Int32 × Mm => r.2) (bd_X12_laysWon_2  x1 x2 μ)
    unfold bd_X12_laysWon_2
    refine FsS.ite ?_ ?_
    · exact FsS.inr Fs.rfl
    · refine lt_ (P := fun z => FsS [66] μ (fun s : Int32 × Int32 × Mm => s.2.2) (fun r : Int32 × Mm => r.2) z) ((upI μ 66 (Int32.toNatClampNeg (v_X12_slot (μ.1 49 3) x2)) (if x2 = 0 then 0 else (-1000000) : Int32))) (fun μ5 : Mm => .inl (x1, (x2 + 1), μ5)) (fun μ5 eμ5 => ?_)
      have fμ5 : Fs [66] μ μ5 := by
        rw [eμ5]
        exact (Fs.up Fs.rfl (by simp))
      exact FsS.inl fμ5
  exact Fs_whlK (S := [66]) (f := (fun s : Int32 × Int32 × Mm => bd_X12_laysWon_2  s.1 s.2.1 s.2.2)) (dd := (fun s : Int32 × Int32 × Mm => (0, s.2.2))) (fun s : Int32 × Int32 × Mm => s.2.2) (fun r : Int32 × Mm => r.2) (fun _ => rfl) key FU s
set_option maxRecDepth 20000 in
set_option maxHeartbeats 400000 in
theorem fsw_X12_laysWon_51  (s : Int32 × Int32 × Int32 × Mm) : Fs [66] (s.2.2.2) ((whl (fun s : Int32 × Int32 × Int32 × Mm => bd_X12_laysWon_51  s.1 s.2.1 s.2.2.1 s.2.2.2) (fun s : Int32 × Int32 × Int32 × Mm => (0, 0, s.2.2.2)) FU s).2.2) := by
  have key : ∀ s : Int32 × Int32 × Int32 × Mm, FsS [66] (s.2.2.2) (fun s : Int32 × Int32 × Int32 × Mm => s.2.2.2) (fun r : Int32 × Int32 × Mm => r.2.2) ((fun s : Int32 × Int32 × Int32 × Mm => bd_X12_laysWon_51  s.1 s.2.1 s.2.2.1 s.2.2.2) s) := by
    rintro ⟨x1, x2, x3, μ⟩
    show FsS [66] μ (fun s : Int32 × Int32 × Int32 × Mm => s.2.2.2) (fun r : Int32 × Int32 × Mm => r.2.2) (bd_X12_laysWon_51  x1 x2 x3 μ)
    unfold bd_X12_laysWon_51
    refine FsS.ite ?_ ?_
    · exact FsS.inr Fs.rfl
    · refine lt_ (P := fun z => FsS [66] μ (fun s : Int32 × Int32 × Int32 × Mm => s.2.2.2) (fun r : Int32 × Int32 × Mm => r.2.2) z) (whl (fun s : Int32 × Int32 × Int32 × Int32 × Int32 => bd_X12_laysWon_65  μ s.1 s.2.1 s.2.2.1 s.2.2.2.1 s.2.2.2.2) (fun _ : Int32 × Int32 × Int32 × Int32 × Int32 => (0, 0, 0, 0)) FU (x1, x2, x3, (-1000000), 0)) (fun r3 : Int32 × Int32 × Int32 × Int32 => (let μ5 : Mm := (upI μ 66 (Int32.toNatClampNeg (v_X12_slot (r3.2.1) (r3.2.2.1))) (r3.2.2.2)); .inl ((r3.1), (r3.2.1), ((r3.2.2.1) + 1), μ5))) (fun r3 er3 => ?_)
      refine lt_ (P := fun z => FsS [66] μ (fun s : Int32 × Int32 × Int32 × Mm => s.2.2.2) (fun r : Int32 × Int32 × Mm => r.2.2) z) ((upI μ 66 (Int32.toNatClampNeg (v_X12_slot (r3.2.1) (r3.2.2.1))) (r3.2.2.2))) (fun μ5 : Mm => .inl ((r3.1), (r3.2.1), ((r3.2.2.1) + 1), μ5)) (fun μ5 eμ5 => ?_)
      have fμ5 : Fs [66] μ μ5 := by
        rw [eμ5]
        exact (Fs.up Fs.rfl (by simp))
      exact FsS.inl fμ5
  exact Fs_whlK (S := [66]) (f := (fun s : Int32 × Int32 × Int32 × Mm => bd_X12_laysWon_51  s.1 s.2.1 s.2.2.1 s.2.2.2)) (dd := (fun s : Int32 × Int32 × Int32 × Mm => (0, 0, s.2.2.2))) (fun s : Int32 × Int32 × Int32 × Mm => s.2.2.2) (fun r : Int32 × Int32 × Mm => r.2.2) (fun _ => rfl) key FU s
set_option maxRecDepth 20000 in
set_option maxHeartbeats 400000 in
theorem fsw_X12_laysWon_45  (s : Int32 × Int32 × Mm) : Fs [66] (s.2.2) ((whl (fun s : Int32 × Int32 × Mm => bd_X12_laysWon_45  s.1 s.2.1 s.2.2) (fun s : Int32 × Int32 × Mm => s.2.2) FU s)) := by
  have key : ∀ s : Int32 × Int32 × Mm, FsS [66] (s.2.2) (fun s : Int32 × Int32 × Mm => s.2.2) (fun r : Mm => r) ((fun s : Int32 × Int32 × Mm => bd_X12_laysWon_45  s.1 s.2.1 s.2.2) s) := by
    rintro ⟨x1, x2, μ⟩
    show FsS [66] μ (fun s : Int32 × Int32 × Mm => s.2.2) (fun r : Mm => r) (bd_X12_laysWon_45  x1 x2 μ)
    unfold bd_X12_laysWon_45
    refine FsS.ite ?_ ?_
    · exact FsS.inr Fs.rfl
    · refine lt_ (P := fun z => FsS [66] μ (fun s : Int32 × Int32 × Mm => s.2.2) (fun r : Mm => r) z) (whl (fun s : Int32 × Int32 × Int32 × Mm => bd_X12_laysWon_51  s.1 s.2.1 s.2.2.1 s.2.2.2) (fun s : Int32 × Int32 × Int32 × Mm => (0, 0, s.2.2.2)) FU (x1, x2, 0, μ)) (fun r3 : Int32 × Int32 × Mm => .inl ((r3.1), ((r3.2.1) + (-1)), (r3.2.2))) (fun r3 er3 => ?_)
      have fr3 : Fs [66] μ (r3.2.2) := by
        rw [er3]
        exact Fs.call Fs.rfl (fsw_X12_laysWon_51  _) (by simp)
      exact FsS.inl3 fr3
  exact Fs_whlK (S := [66]) (f := (fun s : Int32 × Int32 × Mm => bd_X12_laysWon_45  s.1 s.2.1 s.2.2)) (dd := (fun s : Int32 × Int32 × Mm => s.2.2)) (fun s : Int32 × Int32 × Mm => s.2.2) (fun r : Mm => r) (fun _ => rfl) key FU s
set_option maxRecDepth 20000 in
set_option maxHeartbeats 400000 in
theorem fs_X12_laysWon (p0 : Int32) (μ : Mm) : Fs [66] μ (e_X12_laysWon p0 μ) := by
  unfold e_X12_laysWon
  refine lt_ (P := fun z => Fs [66] μ z) (whl (fun s : Int32 × Int32 × Mm => bd_X12_laysWon_2  s.1 s.2.1 s.2.2) (fun s : Int32 × Int32 × Mm => (0, s.2.2)) FU (p0, 0, μ)) (fun r2 : Int32 × Mm => (let r4 : Mm := whl (fun s : Int32 × Int32 × Mm => bd_X12_laysWon_45  s.1 s.2.1 s.2.2) (fun s : Int32 × Int32 × Mm => s.2.2) FU ((r2.1), (((r2.2).1 49 3) - 1), (r2.2)); r4)) (fun r2 er2 => ?_)
  have fr2 : Fs [66] μ (r2.2) := by
    rw [er2]
    exact Fs.call Fs.rfl (fsw_X12_laysWon_2  _) (by simp)
  refine lt_ (P := fun z => Fs [66] μ z) (whl (fun s : Int32 × Int32 × Mm => bd_X12_laysWon_45  s.1 s.2.1 s.2.2) (fun s : Int32 × Int32 × Mm => s.2.2) FU ((r2.1), (((r2.2).1 49 3) - 1), (r2.2))) (fun r4 : Mm => r4) (fun r4 er4 => ?_)
  have fr4 : Fs [66] μ r4 := by
    rw [er4]
    exact Fs.call fr2 (fsw_X12_laysWon_45  _) (by simp)
  exact fr4
set_option maxRecDepth 20000 in
set_option maxHeartbeats 400000 in
theorem fs_X12_noon (p0 : Int32) (μ : Mm) : Fs [52, 61, 1000, 1023] μ (e_X12_noon p0 μ) := by
  unfold e_X12_noon
  refine lt_ (P := fun z => Fs [52, 61, 1000, 1023] μ z) ((upI μ 49 0 0)) (fun μ1 : Mm => (let μ3 : Mm := (e_X12_putsBy  μ1); (let μ7 : Mm := (if (v_X12_in (Int32.toInt64 p0) 1 60) = 0 then μ3 else ((e_X12_becomes 23 p0 0 μ3)) : Mm); (let μ9 : Mm := (e_X12_counted (if (v_X12_in (Int32.toInt64 p0) 1 60) = 0 then (-1) else (v_X12_becomes 23 p0 0 μ3) : Int32) μ7); μ9)))) (fun μ1 eμ1 => ?_)
  have fμ1 : Fs [52, 61, 1000, 1023] μ μ1 := by
    rw [eμ1]
    exact (Fs.upF Fs.rfl (by simp))
  refine lt_ (P := fun z => Fs [52, 61, 1000, 1023] μ z) ((e_X12_putsBy  μ1)) (fun μ3 : Mm => (let μ7 : Mm := (if (v_X12_in (Int32.toInt64 p0) 1 60) = 0 then μ3 else ((e_X12_becomes 23 p0 0 μ3)) : Mm); (let μ9 : Mm := (e_X12_counted (if (v_X12_in (Int32.toInt64 p0) 1 60) = 0 then (-1) else (v_X12_becomes 23 p0 0 μ3) : Int32) μ7); μ9))) (fun μ3 eμ3 => ?_)
  have fμ3 : Fs [52, 61, 1000, 1023] μ μ3 := by
    rw [eμ3]
    exact (Fs.call fμ1 (fs_X12_putsBy μ1) (by simp))
  refine lt_ (P := fun z => Fs [52, 61, 1000, 1023] μ z) ((if (v_X12_in (Int32.toInt64 p0) 1 60) = 0 then μ3 else ((e_X12_becomes 23 p0 0 μ3)) : Mm)) (fun μ7 : Mm => (let μ9 : Mm := (e_X12_counted (if (v_X12_in (Int32.toInt64 p0) 1 60) = 0 then (-1) else (v_X12_becomes 23 p0 0 μ3) : Int32) μ7); μ9)) (fun μ7 eμ7 => ?_)
  have fμ7 : Fs [52, 61, 1000, 1023] μ μ7 := by
    rw [eμ7]
    exact (Fs.ite fμ3 (Fs.call fμ3 (fs_X12_becomes 23 p0 0 μ3) (by simp)))
  refine lt_ (P := fun z => Fs [52, 61, 1000, 1023] μ z) ((e_X12_counted (if (v_X12_in (Int32.toInt64 p0) 1 60) = 0 then (-1) else (v_X12_becomes 23 p0 0 μ3) : Int32) μ7)) (fun μ9 : Mm => μ9) (fun μ9 eμ9 => ?_)
  have fμ9 : Fs [52, 61, 1000, 1023] μ μ9 := by
    rw [eμ9]
    exact (Fs.call fμ7 (fs_X12_counted (if (v_X12_in (Int32.toInt64 p0) 1 60) = 0 then (-1) else (v_X12_becomes 23 p0 0 μ3) : Int32) μ7) (by simp))
  exact fμ9
set_option maxRecDepth 20000 in
set_option maxHeartbeats 400000 in
theorem fsw_X12_number_13  (s : Int32 × Int32 × Int32 × Mm) : Fs [1010] (s.2.2.2) ((whl (fun s : Int32 × Int32 × Int32 × Mm => bd_X12_number_13  s.1 s.2.1 s.2.2.1 s.2.2.2) (fun s : Int32 × Int32 × Int32 × Mm => (0, s.2.2.2)) FU s).2) := by
  have key : ∀ s : Int32 × Int32 × Int32 × Mm, FsS [1010] (s.2.2.2) (fun s : Int32 × Int32 × Int32 × Mm => s.2.2.2) (fun r : Int32 × Mm => r.2) ((fun s : Int32 × Int32 × Int32 × Mm => bd_X12_number_13  s.1 s.2.1 s.2.2.1 s.2.2.2) s) := by
    rintro ⟨x1, x2, x3, μ⟩
    show FsS [1010] μ (fun s : Int32 × Int32 × Int32 × Mm => s.2.2.2) (fun r : Int32 × Mm => r.2) (bd_X12_number_13  x1 x2 x3 μ)
    unfold bd_X12_number_13
    refine FsS.ite ?_ ?_
    · exact FsS.inr Fs.rfl
    · refine FsS.ite ?_ ?_
      · exact FsS.inr Fs.rfl
      · refine lt_ (P := fun z => FsS [1010] μ (fun s : Int32 × Int32 × Int32 × Mm => s.2.2.2) (fun r : Int32 × Mm => r.2) z) ((upI μ 49 10 ((μ.1 49 10) + 1))) (fun μ5 : Mm => .inl (x1, (((10 * x2) + (μ.1 54 (Int32.toNatClampNeg (μ.1 49 10)))) - 48), (x3 + 1), μ5)) (fun μ5 eμ5 => ?_)
        have fμ5 : Fs [1010] μ μ5 := by
          rw [eμ5]
          exact (Fs.upF Fs.rfl (by simp))
        exact FsS.inl fμ5
  exact Fs_whlK (S := [1010]) (f := (fun s : Int32 × Int32 × Int32 × Mm => bd_X12_number_13  s.1 s.2.1 s.2.2.1 s.2.2.2)) (dd := (fun s : Int32 × Int32 × Int32 × Mm => (0, s.2.2.2))) (fun s : Int32 × Int32 × Int32 × Mm => s.2.2.2) (fun r : Int32 × Mm => r.2) (fun _ => rfl) key FU s
set_option maxRecDepth 20000 in
set_option maxHeartbeats 400000 in
theorem fs_X12_number (p0 : Int32) (μ : Mm) : Fs [1010] μ (e_X12_number p0 μ) := by
  unfold e_X12_number
  refine Fs.ite ?_ ?_
  · exact Fs.rfl
  · refine lt_ (P := fun z => Fs [1010] μ z) (whl (fun s : Int32 × Int32 × Int32 × Mm => bd_X12_number_13  s.1 s.2.1 s.2.2.1 s.2.2.2) (fun s : Int32 × Int32 × Int32 × Mm => (0, s.2.2.2)) FU (p0, 0, 0, μ)) (fun r4 : Int32 × Mm => (r4.2)) (fun r4 er4 => ?_)
    have fr4 : Fs [1010] μ (r4.2) := by
      rw [er4]
      exact Fs.call Fs.rfl (fsw_X12_number_13  _) (by simp)
    exact fr4
set_option maxRecDepth 20000 in
set_option maxHeartbeats 400000 in
theorem fsw_X12_ruled_4  (s : Int32 × Int32 × Mm) : Fs [59] (s.2.2) ((whl (fun s : Int32 × Int32 × Mm => bd_X12_ruled_4  s.1 s.2.1 s.2.2) (fun s : Int32 × Int32 × Mm => s.2.2) FU s)) := by
  have key : ∀ s : Int32 × Int32 × Mm, FsS [59] (s.2.2) (fun s : Int32 × Int32 × Mm => s.2.2) (fun r : Mm => r) ((fun s : Int32 × Int32 × Mm => bd_X12_ruled_4  s.1 s.2.1 s.2.2) s) := by
    rintro ⟨x1, x2, μ⟩
    show FsS [59] μ (fun s : Int32 × Int32 × Mm => s.2.2) (fun r : Mm => r) (bd_X12_ruled_4  x1 x2 μ)
    unfold bd_X12_ruled_4
    refine FsS.ite ?_ ?_
    · exact FsS.inr Fs.rfl
    · refine lt_ (P := fun z => FsS [59] μ (fun s : Int32 × Int32 × Mm => s.2.2) (fun r : Mm => r) z) ((if (μ.1 57 (Int32.toNatClampNeg x2)) = 3000 then ((upI μ 59 (Int32.toNatClampNeg (x1 - 1)) (-(μ.1 59 (Int32.toNatClampNeg (x1 - 1)))))) else (if (μ.1 57 (Int32.toNatClampNeg x2)) < 2000 then ((upI μ 59 (Int32.toNatClampNeg x1) (if (μ.1 57 (Int32.toNatClampNeg x2)) < 1000 then (μ.1 57 (Int32.toNatClampNeg x2)) else (μ.1 60 (Int32.toNatClampNeg ((μ.1 57 (Int32.toNatClampNeg x2)) - 1000))) : Int32))) else ((upI μ 59 (Int32.toNatClampNeg ((x1 + (-1)) - 1)) (v_X12_worked ((μ.1 57 (Int32.toNatClampNeg x2)) - 2000) (μ.1 59 (Int32.toNatClampNeg ((x1 + (-1)) - 1))) (μ.1 59 (Int32.toNatClampNeg (x1 + (-1))))))) : Mm) : Mm)) (fun μ18 : Mm => .inl ((if (μ.1 57 (Int32.toNatClampNeg x2)) = 3000 then x1 else (if (μ.1 57 (Int32.toNatClampNeg x2)) < 2000 then (x1 + 1) else (x1 + (-1)) : Int32) : Int32), (x2 + 1), μ18)) (fun μ18 eμ18 => ?_)
      have fμ18 : Fs [59] μ μ18 := by
        rw [eμ18]
        exact (Fs.ite (Fs.up Fs.rfl (by simp)) (Fs.ite (Fs.up Fs.rfl (by simp)) (Fs.up Fs.rfl (by simp))))
      exact FsS.inl fμ18
  exact Fs_whlK (S := [59]) (f := (fun s : Int32 × Int32 × Mm => bd_X12_ruled_4  s.1 s.2.1 s.2.2)) (dd := (fun s : Int32 × Int32 × Mm => s.2.2)) (fun s : Int32 × Int32 × Mm => s.2.2) (fun r : Mm => r) (fun _ => rfl) key FU s
set_option maxRecDepth 20000 in
set_option maxHeartbeats 400000 in
theorem fs_X12_ruled  (μ : Mm) : Fs [59] μ (e_X12_ruled  μ) := by
  unfold e_X12_ruled
  refine lt_ (P := fun z => Fs [59] μ z) (whl (fun s : Int32 × Int32 × Mm => bd_X12_ruled_4  s.1 s.2.1 s.2.2) (fun s : Int32 × Int32 × Mm => s.2.2) FU (0, 0, μ)) (fun r2 : Mm => r2) (fun r2 er2 => ?_)
  have fr2 : Fs [59] μ r2 := by
    rw [er2]
    exact Fs.call Fs.rfl (fsw_X12_ruled_4  _) (by simp)
  exact fr2
set_option maxRecDepth 20000 in
set_option maxHeartbeats 400000 in
theorem fs_X12_asks  (μ : Mm) : Fs [50, 1000, 1001] μ (e_X12_asks  μ) := by
  unfold e_X12_asks
  refine lt_ (P := fun z => Fs [50, 1000, 1001] μ z) ((upI μ 49 0 0)) (fun μ1 : Mm => (if (v_X12_fitting  μ1) = 0 then μ1 else (let r5 : Int32 × Int32 := whl (fun s : Int32 × Int32 × Int32 × Int32 => bd_X12_asks_26  μ1 s.1 s.2.1 s.2.2.1 s.2.2.2) (fun _ : Int32 × Int32 × Int32 × Int32 => (0, 0)) FU ((v_X12_fitting  μ1), (-1), 1000000, 0); (let μ6 : Mm := (upI μ1 49 1 0); (let μ8 : Mm := (e_X12_enters (Int32.toInt64 (r5.2)) μ6); μ8))))) (fun μ1 eμ1 => ?_)
  have fμ1 : Fs [50, 1000, 1001] μ μ1 := by
    rw [eμ1]
    exact (Fs.upF Fs.rfl (by simp))
  refine Fs.ite ?_ ?_
  · exact fμ1
  · refine lt_ (P := fun z => Fs [50, 1000, 1001] μ z) (whl (fun s : Int32 × Int32 × Int32 × Int32 => bd_X12_asks_26  μ1 s.1 s.2.1 s.2.2.1 s.2.2.2) (fun _ : Int32 × Int32 × Int32 × Int32 => (0, 0)) FU ((v_X12_fitting  μ1), (-1), 1000000, 0)) (fun r5 : Int32 × Int32 => (let μ6 : Mm := (upI μ1 49 1 0); (let μ8 : Mm := (e_X12_enters (Int32.toInt64 (r5.2)) μ6); μ8))) (fun r5 er5 => ?_)
    refine lt_ (P := fun z => Fs [50, 1000, 1001] μ z) ((upI μ1 49 1 0)) (fun μ6 : Mm => (let μ8 : Mm := (e_X12_enters (Int32.toInt64 (r5.2)) μ6); μ8)) (fun μ6 eμ6 => ?_)
    have fμ6 : Fs [50, 1000, 1001] μ μ6 := by
      rw [eμ6]
      exact (Fs.upF fμ1 (by simp))
    refine lt_ (P := fun z => Fs [50, 1000, 1001] μ z) ((e_X12_enters (Int32.toInt64 (r5.2)) μ6)) (fun μ8 : Mm => μ8) (fun μ8 eμ8 => ?_)
    have fμ8 : Fs [50, 1000, 1001] μ μ8 := by
      rw [eμ8]
      exact (Fs.call fμ6 (fs_X12_enters (Int32.toInt64 (r5.2)) μ6) (by simp))
    exact fμ8
set_option maxRecDepth 20000 in
set_option maxHeartbeats 400000 in
theorem fsw_X12_backs_26  (s : Int32 × Int32 × Int32 × Mm) : Fs [50, 1001] (s.2.2.2) ((whl (fun s : Int32 × Int32 × Int32 × Mm => bd_X12_backs_26  s.1 s.2.1 s.2.2.1 s.2.2.2) (fun s : Int32 × Int32 × Int32 × Mm => (0, 0, s.2.2.2)) FU s).2.2) := by
  have key : ∀ s : Int32 × Int32 × Int32 × Mm, FsS [50, 1001] (s.2.2.2) (fun s : Int32 × Int32 × Int32 × Mm => s.2.2.2) (fun r : Int32 × Int32 × Mm => r.2.2) ((fun s : Int32 × Int32 × Int32 × Mm => bd_X12_backs_26  s.1 s.2.1 s.2.2.1 s.2.2.2) s) := by
    rintro ⟨x1, x2, x3, μ⟩
    show FsS [50, 1001] μ (fun s : Int32 × Int32 × Int32 × Mm => s.2.2.2) (fun r : Int32 × Int32 × Mm => r.2.2) (bd_X12_backs_26  x1 x2 x3 μ)
    unfold bd_X12_backs_26
    refine FsS.ite ?_ ?_
    · exact FsS.inr Fs.rfl
    · refine lt_ (P := fun z => FsS [50, 1001] μ (fun s : Int32 × Int32 × Int32 × Mm => s.2.2.2) (fun r : Int32 × Int32 × Mm => r.2.2) z) ((if (v_X12_areBacks x2 x3 μ) = 0 then μ else (if x1 = 0 then ((e_X12_enters (Int32.toInt64 x3) ((e_X12_enters (Int32.toInt64 x2) μ)))) else μ : Mm) : Mm)) (fun μ9 : Mm => .inl ((x1 + (v_X12_flag (v_X12_areBacks x2 x3 μ9))), x2, (x3 + 1), μ9)) (fun μ9 eμ9 => ?_)
      have fμ9 : Fs [50, 1001] μ μ9 := by
        rw [eμ9]
        exact (Fs.ite Fs.rfl (Fs.ite (Fs.call (Fs.call Fs.rfl (fs_X12_enters (Int32.toInt64 x2) μ) (by simp)) (fs_X12_enters (Int32.toInt64 x3) ((e_X12_enters (Int32.toInt64 x2) μ))) (by simp)) Fs.rfl))
      exact FsS.inl fμ9
  exact Fs_whlK (S := [50, 1001]) (f := (fun s : Int32 × Int32 × Int32 × Mm => bd_X12_backs_26  s.1 s.2.1 s.2.2.1 s.2.2.2)) (dd := (fun s : Int32 × Int32 × Int32 × Mm => (0, 0, s.2.2.2))) (fun s : Int32 × Int32 × Int32 × Mm => s.2.2.2) (fun r : Int32 × Int32 × Mm => r.2.2) (fun _ => rfl) key FU s
set_option maxRecDepth 20000 in
set_option maxHeartbeats 400000 in
theorem fsw_X12_backs_14  (s : Int32 × Int32 × Mm) : Fs [50, 1001] (s.2.2) ((whl (fun s : Int32 × Int32 × Mm => bd_X12_backs_14  s.1 s.2.1 s.2.2) (fun s : Int32 × Int32 × Mm => (0, s.2.2)) FU s).2) := by
  have key : ∀ s : Int32 × Int32 × Mm, FsS [50, 1001] (s.2.2) (fun s : Int32 × Int32 × Mm => s.2.2) (fun r : Int32 × Mm => r.2) ((fun s : Int32 × Int32 × Mm => bd_X12_backs_14  s.1 s.2.1 s.2.2) s) := by
    rintro ⟨x1, x2, μ⟩
    show FsS [50, 1001] μ (fun s : Int32 × Int32 × Mm => s.2.2) (fun r : Int32 × Mm => r.2) (bd_X12_backs_14  x1 x2 μ)
    unfold bd_X12_backs_14
    refine FsS.ite ?_ ?_
    · exact FsS.inr Fs.rfl
    · refine lt_ (P := fun z => FsS [50, 1001] μ (fun s : Int32 × Int32 × Mm => s.2.2) (fun r : Int32 × Mm => r.2) z) (whl (fun s : Int32 × Int32 × Int32 × Mm => bd_X12_backs_26  s.1 s.2.1 s.2.2.1 s.2.2.2) (fun s : Int32 × Int32 × Int32 × Mm => (0, 0, s.2.2.2)) FU (x1, x2, (x2 + 1), μ)) (fun r3 : Int32 × Int32 × Mm => .inl ((r3.1), ((r3.2.1) + 1), (r3.2.2))) (fun r3 er3 => ?_)
      have fr3 : Fs [50, 1001] μ (r3.2.2) := by
        rw [er3]
        exact Fs.call Fs.rfl (fsw_X12_backs_26  _) (by simp)
      exact FsS.inl fr3
  exact Fs_whlK (S := [50, 1001]) (f := (fun s : Int32 × Int32 × Mm => bd_X12_backs_14  s.1 s.2.1 s.2.2)) (dd := (fun s : Int32 × Int32 × Mm => (0, s.2.2))) (fun s : Int32 × Int32 × Mm => s.2.2) (fun r : Int32 × Mm => r.2) (fun _ => rfl) key FU s
set_option maxRecDepth 20000 in
set_option maxHeartbeats 400000 in
theorem fs_X12_backs  (μ : Mm) : Fs [50, 1000, 1001] μ (e_X12_backs  μ) := by
  unfold e_X12_backs
  refine lt_ (P := fun z => Fs [50, 1000, 1001] μ z) ((upI μ 49 0 0)) (fun μ1 : Mm => (let μ2 : Mm := (upI μ1 49 1 0); (let r4 : Int32 × Mm := whl (fun s : Int32 × Int32 × Mm => bd_X12_backs_14  s.1 s.2.1 s.2.2) (fun s : Int32 × Int32 × Mm => (0, s.2.2)) FU (0, 0, μ2); (r4.2)))) (fun μ1 eμ1 => ?_)
  have fμ1 : Fs [50, 1000, 1001] μ μ1 := by
    rw [eμ1]
    exact (Fs.upF Fs.rfl (by simp))
  refine lt_ (P := fun z => Fs [50, 1000, 1001] μ z) ((upI μ1 49 1 0)) (fun μ2 : Mm => (let r4 : Int32 × Mm := whl (fun s : Int32 × Int32 × Mm => bd_X12_backs_14  s.1 s.2.1 s.2.2) (fun s : Int32 × Int32 × Mm => (0, s.2.2)) FU (0, 0, μ2); (r4.2))) (fun μ2 eμ2 => ?_)
  have fμ2 : Fs [50, 1000, 1001] μ μ2 := by
    rw [eμ2]
    exact (Fs.upF fμ1 (by simp))
  refine lt_ (P := fun z => Fs [50, 1000, 1001] μ z) (whl (fun s : Int32 × Int32 × Mm => bd_X12_backs_14  s.1 s.2.1 s.2.2) (fun s : Int32 × Int32 × Mm => (0, s.2.2)) FU (0, 0, μ2)) (fun r4 : Int32 × Mm => (r4.2)) (fun r4 er4 => ?_)
  have fr4 : Fs [50, 1000, 1001] μ (r4.2) := by
    rw [er4]
    exact Fs.call fμ2 (fsw_X12_backs_14  _) (by simp)
  exact fr4
set_option maxRecDepth 20000 in
set_option maxHeartbeats 400000 in
theorem fs_X12_canvass  (μ : Mm) : Fs [50, 1000, 1001] μ (e_X12_canvass  μ) := by
  unfold e_X12_canvass
  refine lt_ (P := fun z => Fs [50, 1000, 1001] μ z) ((upI μ 49 0 0)) (fun μ1 : Mm => (let r3 : Int32 := whl (fun s : Int32 × Int32 => bd_X12_canvass_9  μ1 s.1 s.2) (fun _ : Int32 × Int32 => 0) FU ((-1), 0); (let μ5 : Mm := (e_X12_entersFewest r3 μ1); μ5))) (fun μ1 eμ1 => ?_)
  have fμ1 : Fs [50, 1000, 1001] μ μ1 := by
    rw [eμ1]
    exact (Fs.upF Fs.rfl (by simp))
  refine lt_ (P := fun z => Fs [50, 1000, 1001] μ z) (whl (fun s : Int32 × Int32 => bd_X12_canvass_9  μ1 s.1 s.2) (fun _ : Int32 × Int32 => 0) FU ((-1), 0)) (fun r3 : Int32 => (let μ5 : Mm := (e_X12_entersFewest r3 μ1); μ5)) (fun r3 er3 => ?_)
  refine lt_ (P := fun z => Fs [50, 1000, 1001] μ z) ((e_X12_entersFewest r3 μ1)) (fun μ5 : Mm => μ5) (fun μ5 eμ5 => ?_)
  have fμ5 : Fs [50, 1000, 1001] μ μ5 := by
    rw [eμ5]
    exact (Fs.call fμ1 (fs_X12_entersFewest r3 μ1) (by simp))
  exact fμ5
set_option maxRecDepth 20000 in
set_option maxHeartbeats 400000 in
theorem fs_X12_crowd  (μ : Mm) : Fs [50, 1000, 1001] μ (e_X12_crowd  μ) := by
  unfold e_X12_crowd
  refine lt_ (P := fun z => Fs [50, 1000, 1001] μ z) ((upI μ 49 0 0)) (fun μ1 : Mm => (let r3 : Int32 × Int32 := whl (fun s : Int32 × Int32 × Int32 => bd_X12_crowd_12  μ1 s.1 s.2.1 s.2.2) (fun _ : Int32 × Int32 × Int32 => (0, 0)) FU (0, 0, (-9)); (let μ4 : Mm := (upI μ1 49 1 0); (let μ10 : Mm := (if (r3.1) = 0 then μ4 else ((e_X12_enters (Int32.toInt64 (r3.1)) ((e_X12_enters (Int32.toInt64 (100 + (r3.2))) μ4)))) : Mm); μ10)))) (fun μ1 eμ1 => ?_)
  have fμ1 : Fs [50, 1000, 1001] μ μ1 := by
    rw [eμ1]
    exact (Fs.upF Fs.rfl (by simp))
  refine lt_ (P := fun z => Fs [50, 1000, 1001] μ z) (whl (fun s : Int32 × Int32 × Int32 => bd_X12_crowd_12  μ1 s.1 s.2.1 s.2.2) (fun _ : Int32 × Int32 × Int32 => (0, 0)) FU (0, 0, (-9))) (fun r3 : Int32 × Int32 => (let μ4 : Mm := (upI μ1 49 1 0); (let μ10 : Mm := (if (r3.1) = 0 then μ4 else ((e_X12_enters (Int32.toInt64 (r3.1)) ((e_X12_enters (Int32.toInt64 (100 + (r3.2))) μ4)))) : Mm); μ10))) (fun r3 er3 => ?_)
  refine lt_ (P := fun z => Fs [50, 1000, 1001] μ z) ((upI μ1 49 1 0)) (fun μ4 : Mm => (let μ10 : Mm := (if (r3.1) = 0 then μ4 else ((e_X12_enters (Int32.toInt64 (r3.1)) ((e_X12_enters (Int32.toInt64 (100 + (r3.2))) μ4)))) : Mm); μ10)) (fun μ4 eμ4 => ?_)
  have fμ4 : Fs [50, 1000, 1001] μ μ4 := by
    rw [eμ4]
    exact (Fs.upF fμ1 (by simp))
  refine lt_ (P := fun z => Fs [50, 1000, 1001] μ z) ((if (r3.1) = 0 then μ4 else ((e_X12_enters (Int32.toInt64 (r3.1)) ((e_X12_enters (Int32.toInt64 (100 + (r3.2))) μ4)))) : Mm)) (fun μ10 : Mm => μ10) (fun μ10 eμ10 => ?_)
  have fμ10 : Fs [50, 1000, 1001] μ μ10 := by
    rw [eμ10]
    exact (Fs.ite fμ4 (Fs.call (Fs.call fμ4 (fs_X12_enters (Int32.toInt64 (100 + (r3.2))) μ4) (by simp)) (fs_X12_enters (Int32.toInt64 (r3.1)) ((e_X12_enters (Int32.toInt64 (100 + (r3.2))) μ4))) (by simp)))
  exact fμ10
set_option maxRecDepth 20000 in
set_option maxHeartbeats 400000 in
theorem fs_X12_fits  (μ : Mm) : Fs [50, 1000, 1001] μ (e_X12_fits  μ) := by
  unfold e_X12_fits
  refine lt_ (P := fun z => Fs [50, 1000, 1001] μ z) ((upI μ 49 0 0)) (fun μ1 : Mm => (let μ3 : Mm := (upI μ1 49 1 0); (let μ5 : Mm := (e_X12_enters (Int32.toInt64 (v_J6_bitCount_0f7a4 (v_X12_fitting  μ1))) μ3); μ5))) (fun μ1 eμ1 => ?_)
  have fμ1 : Fs [50, 1000, 1001] μ μ1 := by
    rw [eμ1]
    exact (Fs.upF Fs.rfl (by simp))
  refine lt_ (P := fun z => Fs [50, 1000, 1001] μ z) ((upI μ1 49 1 0)) (fun μ3 : Mm => (let μ5 : Mm := (e_X12_enters (Int32.toInt64 (v_J6_bitCount_0f7a4 (v_X12_fitting  μ1))) μ3); μ5)) (fun μ3 eμ3 => ?_)
  have fμ3 : Fs [50, 1000, 1001] μ μ3 := by
    rw [eμ3]
    exact (Fs.upF fμ1 (by simp))
  refine lt_ (P := fun z => Fs [50, 1000, 1001] μ z) ((e_X12_enters (Int32.toInt64 (v_J6_bitCount_0f7a4 (v_X12_fitting  μ1))) μ3)) (fun μ5 : Mm => μ5) (fun μ5 eμ5 => ?_)
  have fμ5 : Fs [50, 1000, 1001] μ μ5 := by
    rw [eμ5]
    exact (Fs.call fμ3 (fs_X12_enters (Int32.toInt64 (v_J6_bitCount_0f7a4 (v_X12_fitting  μ1))) μ3) (by simp))
  exact fμ5
set_option maxRecDepth 20000 in
set_option maxHeartbeats 400000 in
theorem fs_X12_heads  (μ : Mm) : Fs [50, 1000, 1001] μ (e_X12_heads  μ) := by
  unfold e_X12_heads
  refine lt_ (P := fun z => Fs [50, 1000, 1001] μ z) ((upI μ 49 0 0)) (fun μ1 : Mm => (let r3 : Int32 × Int32 × Int32 := whl (fun s : Int32 × Int32 × Int32 × Int32 => bd_X12_heads_14  μ1 s.1 s.2.1 s.2.2.1 s.2.2.2) (fun _ : Int32 × Int32 × Int32 × Int32 => (0, 0, 0)) FU (0, 0, 0, 0); (let μ4 : Mm := (upI μ1 49 1 0); (let μ6 : Mm := (e_X12_enters (Int32.toInt64 (1000 + (r3.2.1))) μ4); (let μ8 : Mm := (e_X12_enters (Int32.toInt64 (1000 + (r3.2.2))) μ6); (let μ11 : Mm := (e_X12_enters (Int32.toInt64 (10000 + (v_X12_caring 0 μ8))) μ8); μ11)))))) (fun μ1 eμ1 => ?_)
  have fμ1 : Fs [50, 1000, 1001] μ μ1 := by
    rw [eμ1]
    exact (Fs.upF Fs.rfl (by simp))
  refine lt_ (P := fun z => Fs [50, 1000, 1001] μ z) (whl (fun s : Int32 × Int32 × Int32 × Int32 => bd_X12_heads_14  μ1 s.1 s.2.1 s.2.2.1 s.2.2.2) (fun _ : Int32 × Int32 × Int32 × Int32 => (0, 0, 0)) FU (0, 0, 0, 0)) (fun r3 : Int32 × Int32 × Int32 => (let μ4 : Mm := (upI μ1 49 1 0); (let μ6 : Mm := (e_X12_enters (Int32.toInt64 (1000 + (r3.2.1))) μ4); (let μ8 : Mm := (e_X12_enters (Int32.toInt64 (1000 + (r3.2.2))) μ6); (let μ11 : Mm := (e_X12_enters (Int32.toInt64 (10000 + (v_X12_caring 0 μ8))) μ8); μ11))))) (fun r3 er3 => ?_)
  refine lt_ (P := fun z => Fs [50, 1000, 1001] μ z) ((upI μ1 49 1 0)) (fun μ4 : Mm => (let μ6 : Mm := (e_X12_enters (Int32.toInt64 (1000 + (r3.2.1))) μ4); (let μ8 : Mm := (e_X12_enters (Int32.toInt64 (1000 + (r3.2.2))) μ6); (let μ11 : Mm := (e_X12_enters (Int32.toInt64 (10000 + (v_X12_caring 0 μ8))) μ8); μ11)))) (fun μ4 eμ4 => ?_)
  have fμ4 : Fs [50, 1000, 1001] μ μ4 := by
    rw [eμ4]
    exact (Fs.upF fμ1 (by simp))
  refine lt_ (P := fun z => Fs [50, 1000, 1001] μ z) ((e_X12_enters (Int32.toInt64 (1000 + (r3.2.1))) μ4)) (fun μ6 : Mm => (let μ8 : Mm := (e_X12_enters (Int32.toInt64 (1000 + (r3.2.2))) μ6); (let μ11 : Mm := (e_X12_enters (Int32.toInt64 (10000 + (v_X12_caring 0 μ8))) μ8); μ11))) (fun μ6 eμ6 => ?_)
  have fμ6 : Fs [50, 1000, 1001] μ μ6 := by
    rw [eμ6]
    exact (Fs.call fμ4 (fs_X12_enters (Int32.toInt64 (1000 + (r3.2.1))) μ4) (by simp))
  refine lt_ (P := fun z => Fs [50, 1000, 1001] μ z) ((e_X12_enters (Int32.toInt64 (1000 + (r3.2.2))) μ6)) (fun μ8 : Mm => (let μ11 : Mm := (e_X12_enters (Int32.toInt64 (10000 + (v_X12_caring 0 μ8))) μ8); μ11)) (fun μ8 eμ8 => ?_)
  have fμ8 : Fs [50, 1000, 1001] μ μ8 := by
    rw [eμ8]
    exact (Fs.call fμ6 (fs_X12_enters (Int32.toInt64 (1000 + (r3.2.2))) μ6) (by simp))
  refine lt_ (P := fun z => Fs [50, 1000, 1001] μ z) ((e_X12_enters (Int32.toInt64 (10000 + (v_X12_caring 0 μ8))) μ8)) (fun μ11 : Mm => μ11) (fun μ11 eμ11 => ?_)
  have fμ11 : Fs [50, 1000, 1001] μ μ11 := by
    rw [eμ11]
    exact (Fs.call fμ8 (fs_X12_enters (Int32.toInt64 (10000 + (v_X12_caring 0 μ8))) μ8) (by simp))
  exact fμ11
set_option maxRecDepth 20000 in
set_option maxHeartbeats 400000 in
theorem fs_X12_just (p0 : Int32) (μ : Mm) : Fs [50, 1000, 1001] μ (e_X12_just p0 μ) := by
  unfold e_X12_just
  refine lt_ (P := fun z => Fs [50, 1000, 1001] μ z) ((upI μ 49 0 0)) (fun μ1 : Mm => (if (v_X12_in (Int32.toInt64 p0) 0 99) = 0 then μ1 else (let r4 : Int32 × Int32 := whl (fun s : Int32 × Int32 × Int32 × Int32 => bd_X12_just_26  μ1 s.1 s.2.1 s.2.2.1 s.2.2.2) (fun _ : Int32 × Int32 × Int32 × Int32 => (0, 0)) FU (p0, (-1), 0, 0); (let μ6 : Mm := (e_X12_entersFewest (r4.1) μ1); (let μ10 : Mm := (if (r4.1) < 0 then μ6 else ((e_X12_enters (Int32.toInt64 (r4.2)) μ6)) : Mm); μ10))))) (fun μ1 eμ1 => ?_)
  have fμ1 : Fs [50, 1000, 1001] μ μ1 := by
    rw [eμ1]
    exact (Fs.upF Fs.rfl (by simp))
  refine Fs.ite ?_ ?_
  · exact fμ1
  · refine lt_ (P := fun z => Fs [50, 1000, 1001] μ z) (whl (fun s : Int32 × Int32 × Int32 × Int32 => bd_X12_just_26  μ1 s.1 s.2.1 s.2.2.1 s.2.2.2) (fun _ : Int32 × Int32 × Int32 × Int32 => (0, 0)) FU (p0, (-1), 0, 0)) (fun r4 : Int32 × Int32 => (let μ6 : Mm := (e_X12_entersFewest (r4.1) μ1); (let μ10 : Mm := (if (r4.1) < 0 then μ6 else ((e_X12_enters (Int32.toInt64 (r4.2)) μ6)) : Mm); μ10))) (fun r4 er4 => ?_)
    refine lt_ (P := fun z => Fs [50, 1000, 1001] μ z) ((e_X12_entersFewest (r4.1) μ1)) (fun μ6 : Mm => (let μ10 : Mm := (if (r4.1) < 0 then μ6 else ((e_X12_enters (Int32.toInt64 (r4.2)) μ6)) : Mm); μ10)) (fun μ6 eμ6 => ?_)
    have fμ6 : Fs [50, 1000, 1001] μ μ6 := by
      rw [eμ6]
      exact (Fs.call fμ1 (fs_X12_entersFewest (r4.1) μ1) (by simp))
    refine lt_ (P := fun z => Fs [50, 1000, 1001] μ z) ((if (r4.1) < 0 then μ6 else ((e_X12_enters (Int32.toInt64 (r4.2)) μ6)) : Mm)) (fun μ10 : Mm => μ10) (fun μ10 eμ10 => ?_)
    have fμ10 : Fs [50, 1000, 1001] μ μ10 := by
      rw [eμ10]
      exact (Fs.ite fμ6 (Fs.call fμ6 (fs_X12_enters (Int32.toInt64 (r4.2)) μ6) (by simp)))
    exact fμ10
set_option maxRecDepth 20000 in
set_option maxHeartbeats 400000 in
theorem fs_X12_leads (p0 : Int32) (p1 : Int32) (μ : Mm) : Fs [52, 61, 1000, 1023] μ (e_X12_leads p0 p1 μ) := by
  unfold e_X12_leads
  refine lt_ (P := fun z => Fs [52, 61, 1000, 1023] μ z) ((upI μ 49 0 0)) (fun μ1 : Mm => (let μ3 : Mm := (e_X12_putsBy  μ1); (let μ5 : Mm := (e_X12_leadsTo p0 p1 μ3); (let μ7 : Mm := (e_X12_counted (v_X12_leadsTo p0 p1 μ3) μ5); μ7)))) (fun μ1 eμ1 => ?_)
  have fμ1 : Fs [52, 61, 1000, 1023] μ μ1 := by
    rw [eμ1]
    exact (Fs.upF Fs.rfl (by simp))
  refine lt_ (P := fun z => Fs [52, 61, 1000, 1023] μ z) ((e_X12_putsBy  μ1)) (fun μ3 : Mm => (let μ5 : Mm := (e_X12_leadsTo p0 p1 μ3); (let μ7 : Mm := (e_X12_counted (v_X12_leadsTo p0 p1 μ3) μ5); μ7))) (fun μ3 eμ3 => ?_)
  have fμ3 : Fs [52, 61, 1000, 1023] μ μ3 := by
    rw [eμ3]
    exact (Fs.call fμ1 (fs_X12_putsBy μ1) (by simp))
  refine lt_ (P := fun z => Fs [52, 61, 1000, 1023] μ z) ((e_X12_leadsTo p0 p1 μ3)) (fun μ5 : Mm => (let μ7 : Mm := (e_X12_counted (v_X12_leadsTo p0 p1 μ3) μ5); μ7)) (fun μ5 eμ5 => ?_)
  have fμ5 : Fs [52, 61, 1000, 1023] μ μ5 := by
    rw [eμ5]
    exact (Fs.call fμ3 (fs_X12_leadsTo p0 p1 μ3) (by simp))
  refine lt_ (P := fun z => Fs [52, 61, 1000, 1023] μ z) ((e_X12_counted (v_X12_leadsTo p0 p1 μ3) μ5)) (fun μ7 : Mm => μ7) (fun μ7 eμ7 => ?_)
  have fμ7 : Fs [52, 61, 1000, 1023] μ μ7 := by
    rw [eμ7]
    exact (Fs.call fμ5 (fs_X12_counted (v_X12_leadsTo p0 p1 μ3) μ5) (by simp))
  exact fμ7
set_option maxRecDepth 20000 in
set_option maxHeartbeats 400000 in
theorem fsw_X12_line_21  (s : Int32 × Int32 × Mm) : Fs [50, 1001] (s.2.2) ((whl (fun s : Int32 × Int32 × Mm => bd_X12_line_21  s.1 s.2.1 s.2.2) (fun s : Int32 × Int32 × Mm => (0, s.2.2)) FU s).2) := by
  have key : ∀ s : Int32 × Int32 × Mm, FsS [50, 1001] (s.2.2) (fun s : Int32 × Int32 × Mm => s.2.2) (fun r : Int32 × Mm => r.2) ((fun s : Int32 × Int32 × Mm => bd_X12_line_21  s.1 s.2.1 s.2.2) s) := by
    rintro ⟨x1, x2, μ⟩
    show FsS [50, 1001] μ (fun s : Int32 × Int32 × Mm => s.2.2) (fun r : Int32 × Mm => r.2) (bd_X12_line_21  x1 x2 μ)
    unfold bd_X12_line_21
    refine FsS.ite ?_ ?_
    · exact FsS.inr Fs.rfl
    · refine lt_ (P := fun z => FsS [50, 1001] μ (fun s : Int32 × Int32 × Mm => s.2.2) (fun r : Int32 × Mm => r.2) z) ((if (v_X12_has (v_X12_standingOn 52 x1 μ) x2) = 0 then μ else ((e_X12_enters (Int32.toInt64 x2) μ)) : Mm)) (fun μ6 : Mm => .inl (x1, (x2 + 1), μ6)) (fun μ6 eμ6 => ?_)
      have fμ6 : Fs [50, 1001] μ μ6 := by
        rw [eμ6]
        exact (Fs.ite Fs.rfl (Fs.call Fs.rfl (fs_X12_enters (Int32.toInt64 x2) μ) (by simp)))
      exact FsS.inl fμ6
  exact Fs_whlK (S := [50, 1001]) (f := (fun s : Int32 × Int32 × Mm => bd_X12_line_21  s.1 s.2.1 s.2.2)) (dd := (fun s : Int32 × Int32 × Mm => (0, s.2.2))) (fun s : Int32 × Int32 × Mm => s.2.2) (fun r : Int32 × Mm => r.2) (fun _ => rfl) key FU s
set_option maxRecDepth 20000 in
set_option maxHeartbeats 400000 in
theorem fsw_X12_line_13  (s : Int32 × Mm) : Fs [50, 1001] (s.2) ((whl (fun s : Int32 × Mm => bd_X12_line_13  s.1 s.2) (fun s : Int32 × Mm => s.2) FU s)) := by
  have key : ∀ s : Int32 × Mm, FsS [50, 1001] (s.2) (fun s : Int32 × Mm => s.2) (fun r : Mm => r) ((fun s : Int32 × Mm => bd_X12_line_13  s.1 s.2) s) := by
    rintro ⟨x1, μ⟩
    show FsS [50, 1001] μ (fun s : Int32 × Mm => s.2) (fun r : Mm => r) (bd_X12_line_13  x1 μ)
    unfold bd_X12_line_13
    refine FsS.ite ?_ ?_
    · exact FsS.inr Fs.rfl
    · refine lt_ (P := fun z => FsS [50, 1001] μ (fun s : Int32 × Mm => s.2) (fun r : Mm => r) z) (whl (fun s : Int32 × Int32 × Mm => bd_X12_line_21  s.1 s.2.1 s.2.2) (fun s : Int32 × Int32 × Mm => (0, s.2.2)) FU (x1, 0, μ)) (fun r3 : Int32 × Mm => .inl (((r3.1) + 1), (r3.2))) (fun r3 er3 => ?_)
      have fr3 : Fs [50, 1001] μ (r3.2) := by
        rw [er3]
        exact Fs.call Fs.rfl (fsw_X12_line_21  _) (by simp)
      exact FsS.inl fr3
  exact Fs_whlK (S := [50, 1001]) (f := (fun s : Int32 × Mm => bd_X12_line_13  s.1 s.2)) (dd := (fun s : Int32 × Mm => s.2)) (fun s : Int32 × Mm => s.2) (fun r : Mm => r) (fun _ => rfl) key FU s
set_option maxRecDepth 20000 in
set_option maxHeartbeats 400000 in
theorem fs_X12_line  (μ : Mm) : Fs [50, 1000, 1001] μ (e_X12_line  μ) := by
  unfold e_X12_line
  refine lt_ (P := fun z => Fs [50, 1000, 1001] μ z) ((upI μ 49 0 0)) (fun μ1 : Mm => (let μ2 : Mm := (upI μ1 49 1 0); (let r4 : Mm := whl (fun s : Int32 × Mm => bd_X12_line_13  s.1 s.2) (fun s : Int32 × Mm => s.2) FU ((-9), μ2); r4))) (fun μ1 eμ1 => ?_)
  have fμ1 : Fs [50, 1000, 1001] μ μ1 := by
    rw [eμ1]
    exact (Fs.upF Fs.rfl (by simp))
  refine lt_ (P := fun z => Fs [50, 1000, 1001] μ z) ((upI μ1 49 1 0)) (fun μ2 : Mm => (let r4 : Mm := whl (fun s : Int32 × Mm => bd_X12_line_13  s.1 s.2) (fun s : Int32 × Mm => s.2) FU ((-9), μ2); r4)) (fun μ2 eμ2 => ?_)
  have fμ2 : Fs [50, 1000, 1001] μ μ2 := by
    rw [eμ2]
    exact (Fs.upF fμ1 (by simp))
  refine lt_ (P := fun z => Fs [50, 1000, 1001] μ z) (whl (fun s : Int32 × Mm => bd_X12_line_13  s.1 s.2) (fun s : Int32 × Mm => s.2) FU ((-9), μ2)) (fun r4 : Mm => r4) (fun r4 er4 => ?_)
  have fr4 : Fs [50, 1000, 1001] μ r4 := by
    rw [er4]
    exact Fs.call fμ2 (fsw_X12_line_13  _) (by simp)
  exact fr4
set_option maxRecDepth 20000 in
set_option maxHeartbeats 400000 in
theorem fs_X12_sacks (p0 : Int32) (p1 : Int32) (μ : Mm) : Fs [52, 61, 1000, 1023] μ (e_X12_sacks p0 p1 μ) := by
  unfold e_X12_sacks
  refine lt_ (P := fun z => Fs [52, 61, 1000, 1023] μ z) ((upI μ 49 0 0)) (fun μ1 : Mm => (let μ3 : Mm := (e_X12_putsBy  μ1); (let μ5 : Mm := (e_X12_sacksTo p0 p1 μ3); (let μ7 : Mm := (e_X12_counted (v_X12_sacksTo p0 p1 μ3) μ5); μ7)))) (fun μ1 eμ1 => ?_)
  have fμ1 : Fs [52, 61, 1000, 1023] μ μ1 := by
    rw [eμ1]
    exact (Fs.upF Fs.rfl (by simp))
  refine lt_ (P := fun z => Fs [52, 61, 1000, 1023] μ z) ((e_X12_putsBy  μ1)) (fun μ3 : Mm => (let μ5 : Mm := (e_X12_sacksTo p0 p1 μ3); (let μ7 : Mm := (e_X12_counted (v_X12_sacksTo p0 p1 μ3) μ5); μ7))) (fun μ3 eμ3 => ?_)
  have fμ3 : Fs [52, 61, 1000, 1023] μ μ3 := by
    rw [eμ3]
    exact (Fs.call fμ1 (fs_X12_putsBy μ1) (by simp))
  refine lt_ (P := fun z => Fs [52, 61, 1000, 1023] μ z) ((e_X12_sacksTo p0 p1 μ3)) (fun μ5 : Mm => (let μ7 : Mm := (e_X12_counted (v_X12_sacksTo p0 p1 μ3) μ5); μ7)) (fun μ5 eμ5 => ?_)
  have fμ5 : Fs [52, 61, 1000, 1023] μ μ5 := by
    rw [eμ5]
    exact (Fs.call fμ3 (fs_X12_sacksTo p0 p1 μ3) (by simp))
  refine lt_ (P := fun z => Fs [52, 61, 1000, 1023] μ z) ((e_X12_counted (v_X12_sacksTo p0 p1 μ3) μ5)) (fun μ7 : Mm => μ7) (fun μ7 eμ7 => ?_)
  have fμ7 : Fs [52, 61, 1000, 1023] μ μ7 := by
    rw [eμ7]
    exact (Fs.call fμ5 (fs_X12_counted (v_X12_sacksTo p0 p1 μ3) μ5) (by simp))
  exact fμ7
set_option maxRecDepth 20000 in
set_option maxHeartbeats 400000 in
theorem fs_X12_steps (p0 : Int32) (μ : Mm) : Fs [52, 61, 1000, 1023] μ (e_X12_steps p0 μ) := by
  unfold e_X12_steps
  refine lt_ (P := fun z => Fs [52, 61, 1000, 1023] μ z) ((upI μ 49 0 0)) (fun μ1 : Mm => (let μ3 : Mm := (e_X12_putsBy  μ1); (let μ4 : Mm := (e_X12_stepsOff 52 p0 μ3); (let μ6 : Mm := (e_X12_counted (v_X12_stepsOff 52 p0 μ3) μ4); μ6)))) (fun μ1 eμ1 => ?_)
  have fμ1 : Fs [52, 61, 1000, 1023] μ μ1 := by
    rw [eμ1]
    exact (Fs.upF Fs.rfl (by simp))
  refine lt_ (P := fun z => Fs [52, 61, 1000, 1023] μ z) ((e_X12_putsBy  μ1)) (fun μ3 : Mm => (let μ4 : Mm := (e_X12_stepsOff 52 p0 μ3); (let μ6 : Mm := (e_X12_counted (v_X12_stepsOff 52 p0 μ3) μ4); μ6))) (fun μ3 eμ3 => ?_)
  have fμ3 : Fs [52, 61, 1000, 1023] μ μ3 := by
    rw [eμ3]
    exact (Fs.call fμ1 (fs_X12_putsBy μ1) (by simp))
  refine lt_ (P := fun z => Fs [52, 61, 1000, 1023] μ z) ((e_X12_stepsOff 52 p0 μ3)) (fun μ4 : Mm => (let μ6 : Mm := (e_X12_counted (v_X12_stepsOff 52 p0 μ3) μ4); μ6)) (fun μ4 eμ4 => ?_)
  have fμ4 : Fs [52, 61, 1000, 1023] μ μ4 := by
    rw [eμ4]
    exact (Fs.call fμ3 (fs_X12_stepsOff 52 p0 μ3) (by simp))
  refine lt_ (P := fun z => Fs [52, 61, 1000, 1023] μ z) ((e_X12_counted (v_X12_stepsOff 52 p0 μ3) μ4)) (fun μ6 : Mm => μ6) (fun μ6 eμ6 => ?_)
  have fμ6 : Fs [52, 61, 1000, 1023] μ μ6 := by
    rw [eμ6]
    exact (Fs.call fμ4 (fs_X12_counted (v_X12_stepsOff 52 p0 μ3) μ4) (by simp))
  exact fμ6
set_option maxRecDepth 20000 in
set_option maxHeartbeats 400000 in
theorem fs_X12_strongest  (μ : Mm) : Fs [50, 1000, 1001] μ (e_X12_strongest  μ) := by
  unfold e_X12_strongest
  refine lt_ (P := fun z => Fs [50, 1000, 1001] μ z) ((upI μ 49 0 0)) (fun μ1 : Mm => (let r3 : Int32 × Int32 × Int32 := whl (fun s : Int32 × Int32 × Int32 × Int32 => bd_X12_strongest_15  μ1 s.1 s.2.1 s.2.2.1 s.2.2.2) (fun _ : Int32 × Int32 × Int32 × Int32 => (0, 0, 0)) FU ((-2), (-1), 0, 0); (let μ10 : Mm := (if (r3.1) < 0 then μ1 else ((e_X12_enters (Int32.toInt64 (r3.2.2)) ((e_X12_enters (Int32.toInt64 (r3.2.1)) ((upI μ1 49 1 0)))))) : Mm); μ10))) (fun μ1 eμ1 => ?_)
  have fμ1 : Fs [50, 1000, 1001] μ μ1 := by
    rw [eμ1]
    exact (Fs.upF Fs.rfl (by simp))
  refine lt_ (P := fun z => Fs [50, 1000, 1001] μ z) (whl (fun s : Int32 × Int32 × Int32 × Int32 => bd_X12_strongest_15  μ1 s.1 s.2.1 s.2.2.1 s.2.2.2) (fun _ : Int32 × Int32 × Int32 × Int32 => (0, 0, 0)) FU ((-2), (-1), 0, 0)) (fun r3 : Int32 × Int32 × Int32 => (let μ10 : Mm := (if (r3.1) < 0 then μ1 else ((e_X12_enters (Int32.toInt64 (r3.2.2)) ((e_X12_enters (Int32.toInt64 (r3.2.1)) ((upI μ1 49 1 0)))))) : Mm); μ10)) (fun r3 er3 => ?_)
  refine lt_ (P := fun z => Fs [50, 1000, 1001] μ z) ((if (r3.1) < 0 then μ1 else ((e_X12_enters (Int32.toInt64 (r3.2.2)) ((e_X12_enters (Int32.toInt64 (r3.2.1)) ((upI μ1 49 1 0)))))) : Mm)) (fun μ10 : Mm => μ10) (fun μ10 eμ10 => ?_)
  have fμ10 : Fs [50, 1000, 1001] μ μ10 := by
    rw [eμ10]
    exact (Fs.ite fμ1 (Fs.call (Fs.call (Fs.upF fμ1 (by simp)) (fs_X12_enters (Int32.toInt64 (r3.2.1)) ((upI μ1 49 1 0))) (by simp)) (fs_X12_enters (Int32.toInt64 (r3.2.2)) ((e_X12_enters (Int32.toInt64 (r3.2.1)) ((upI μ1 49 1 0))))) (by simp)))
  exact fμ10
set_option maxRecDepth 20000 in
set_option maxHeartbeats 400000 in
theorem fs_X12_turnsTo (p0 : Int32) (p1 : Int32) (μ : Mm) : Fs [52, 61, 1000, 1023] μ (e_X12_turnsTo p0 p1 μ) := by
  unfold e_X12_turnsTo
  refine lt_ (P := fun z => Fs [52, 61, 1000, 1023] μ z) ((upI μ 49 0 0)) (fun μ1 : Mm => (let μ3 : Mm := (e_X12_putsBy  μ1); (let μ5 : Mm := (e_X12_wishesTo p0 p1 μ3); (let μ7 : Mm := (e_X12_counted (v_X12_wishesTo p0 p1 μ3) μ5); μ7)))) (fun μ1 eμ1 => ?_)
  have fμ1 : Fs [52, 61, 1000, 1023] μ μ1 := by
    rw [eμ1]
    exact (Fs.upF Fs.rfl (by simp))
  refine lt_ (P := fun z => Fs [52, 61, 1000, 1023] μ z) ((e_X12_putsBy  μ1)) (fun μ3 : Mm => (let μ5 : Mm := (e_X12_wishesTo p0 p1 μ3); (let μ7 : Mm := (e_X12_counted (v_X12_wishesTo p0 p1 μ3) μ5); μ7))) (fun μ3 eμ3 => ?_)
  have fμ3 : Fs [52, 61, 1000, 1023] μ μ3 := by
    rw [eμ3]
    exact (Fs.call fμ1 (fs_X12_putsBy μ1) (by simp))
  refine lt_ (P := fun z => Fs [52, 61, 1000, 1023] μ z) ((e_X12_wishesTo p0 p1 μ3)) (fun μ5 : Mm => (let μ7 : Mm := (e_X12_counted (v_X12_wishesTo p0 p1 μ3) μ5); μ7)) (fun μ5 eμ5 => ?_)
  have fμ5 : Fs [52, 61, 1000, 1023] μ μ5 := by
    rw [eμ5]
    exact (Fs.call fμ3 (fs_X12_wishesTo p0 p1 μ3) (by simp))
  refine lt_ (P := fun z => Fs [52, 61, 1000, 1023] μ z) ((e_X12_counted (v_X12_wishesTo p0 p1 μ3) μ5)) (fun μ7 : Mm => μ7) (fun μ7 eμ7 => ?_)
  have fμ7 : Fs [52, 61, 1000, 1023] μ μ7 := by
    rw [eμ7]
    exact (Fs.call fμ5 (fs_X12_counted (v_X12_wishesTo p0 p1 μ3) μ5) (by simp))
  exact fμ7
set_option maxRecDepth 20000 in
set_option maxHeartbeats 400000 in
theorem fs_X12_walksTo (p0 : Nat) (p1 : Int32) (p2 : Int32) (μ : Mm) : Fs [59, 60] μ (e_X12_walksTo p0 p1 p2 μ) := by
  unfold e_X12_walksTo
  refine Fs.ite ?_ ?_
  · refine lt_ (P := fun z => Fs [59, 60] μ z) ((upI μ 60 (Int32.toNatClampNeg 0) (μ.1 p0 (Int32.toNatClampNeg p1)))) (fun μ3 : Mm => (let μ5 : Mm := (upI μ3 60 (Int32.toNatClampNeg 1) (μ3.1 p0 (Int32.toNatClampNeg (7 + p1)))); (let μ7 : Mm := (upI μ5 60 (Int32.toNatClampNeg 2) (v_X12_load p0 p1 μ5)); (let μ8 : Mm := (upI μ7 60 (Int32.toNatClampNeg 3) p2); (let μ10 : Mm := (upI μ8 60 (Int32.toNatClampNeg 4) (v_X12_othersOn p0 p1 μ8)); (let μ11 : Mm := (upI μ10 60 (Int32.toNatClampNeg 5) p1); (let μ12 : Mm := (upI μ11 60 (Int32.toNatClampNeg 6) ((μ11.1 p0 (Int32.toNatClampNeg 22)) - (μ11.1 p0 (Int32.toNatClampNeg 22)) / 7 * 7)); (let μ14 : Mm := (e_X12_ruled  μ12); μ14)))))))) (fun μ3 eμ3 => ?_)
    have fμ3 : Fs [59, 60] μ μ3 := by
      rw [eμ3]
      exact (Fs.up Fs.rfl (by simp))
    refine lt_ (P := fun z => Fs [59, 60] μ z) ((upI μ3 60 (Int32.toNatClampNeg 1) (μ3.1 p0 (Int32.toNatClampNeg (7 + p1))))) (fun μ5 : Mm => (let μ7 : Mm := (upI μ5 60 (Int32.toNatClampNeg 2) (v_X12_load p0 p1 μ5)); (let μ8 : Mm := (upI μ7 60 (Int32.toNatClampNeg 3) p2); (let μ10 : Mm := (upI μ8 60 (Int32.toNatClampNeg 4) (v_X12_othersOn p0 p1 μ8)); (let μ11 : Mm := (upI μ10 60 (Int32.toNatClampNeg 5) p1); (let μ12 : Mm := (upI μ11 60 (Int32.toNatClampNeg 6) ((μ11.1 p0 (Int32.toNatClampNeg 22)) - (μ11.1 p0 (Int32.toNatClampNeg 22)) / 7 * 7)); (let μ14 : Mm := (e_X12_ruled  μ12); μ14))))))) (fun μ5 eμ5 => ?_)
    have fμ5 : Fs [59, 60] μ μ5 := by
      rw [eμ5]
      exact (Fs.up fμ3 (by simp))
    refine lt_ (P := fun z => Fs [59, 60] μ z) ((upI μ5 60 (Int32.toNatClampNeg 2) (v_X12_load p0 p1 μ5))) (fun μ7 : Mm => (let μ8 : Mm := (upI μ7 60 (Int32.toNatClampNeg 3) p2); (let μ10 : Mm := (upI μ8 60 (Int32.toNatClampNeg 4) (v_X12_othersOn p0 p1 μ8)); (let μ11 : Mm := (upI μ10 60 (Int32.toNatClampNeg 5) p1); (let μ12 : Mm := (upI μ11 60 (Int32.toNatClampNeg 6) ((μ11.1 p0 (Int32.toNatClampNeg 22)) - (μ11.1 p0 (Int32.toNatClampNeg 22)) / 7 * 7)); (let μ14 : Mm := (e_X12_ruled  μ12); μ14)))))) (fun μ7 eμ7 => ?_)
    have fμ7 : Fs [59, 60] μ μ7 := by
      rw [eμ7]
      exact (Fs.up fμ5 (by simp))
    refine lt_ (P := fun z => Fs [59, 60] μ z) ((upI μ7 60 (Int32.toNatClampNeg 3) p2)) (fun μ8 : Mm => (let μ10 : Mm := (upI μ8 60 (Int32.toNatClampNeg 4) (v_X12_othersOn p0 p1 μ8)); (let μ11 : Mm := (upI μ10 60 (Int32.toNatClampNeg 5) p1); (let μ12 : Mm := (upI μ11 60 (Int32.toNatClampNeg 6) ((μ11.1 p0 (Int32.toNatClampNeg 22)) - (μ11.1 p0 (Int32.toNatClampNeg 22)) / 7 * 7)); (let μ14 : Mm := (e_X12_ruled  μ12); μ14))))) (fun μ8 eμ8 => ?_)
    have fμ8 : Fs [59, 60] μ μ8 := by
      rw [eμ8]
      exact (Fs.up fμ7 (by simp))
    refine lt_ (P := fun z => Fs [59, 60] μ z) ((upI μ8 60 (Int32.toNatClampNeg 4) (v_X12_othersOn p0 p1 μ8))) (fun μ10 : Mm => (let μ11 : Mm := (upI μ10 60 (Int32.toNatClampNeg 5) p1); (let μ12 : Mm := (upI μ11 60 (Int32.toNatClampNeg 6) ((μ11.1 p0 (Int32.toNatClampNeg 22)) - (μ11.1 p0 (Int32.toNatClampNeg 22)) / 7 * 7)); (let μ14 : Mm := (e_X12_ruled  μ12); μ14)))) (fun μ10 eμ10 => ?_)
    have fμ10 : Fs [59, 60] μ μ10 := by
      rw [eμ10]
      exact (Fs.up fμ8 (by simp))
    refine lt_ (P := fun z => Fs [59, 60] μ z) ((upI μ10 60 (Int32.toNatClampNeg 5) p1)) (fun μ11 : Mm => (let μ12 : Mm := (upI μ11 60 (Int32.toNatClampNeg 6) ((μ11.1 p0 (Int32.toNatClampNeg 22)) - (μ11.1 p0 (Int32.toNatClampNeg 22)) / 7 * 7)); (let μ14 : Mm := (e_X12_ruled  μ12); μ14))) (fun μ11 eμ11 => ?_)
    have fμ11 : Fs [59, 60] μ μ11 := by
      rw [eμ11]
      exact (Fs.up fμ10 (by simp))
    refine lt_ (P := fun z => Fs [59, 60] μ z) ((upI μ11 60 (Int32.toNatClampNeg 6) ((μ11.1 p0 (Int32.toNatClampNeg 22)) - (μ11.1 p0 (Int32.toNatClampNeg 22)) / 7 * 7))) (fun μ12 : Mm => (let μ14 : Mm := (e_X12_ruled  μ12); μ14)) (fun μ12 eμ12 => ?_)
    have fμ12 : Fs [59, 60] μ μ12 := by
      rw [eμ12]
      exact (Fs.up fμ11 (by simp))
    refine lt_ (P := fun z => Fs [59, 60] μ z) ((e_X12_ruled  μ12)) (fun μ14 : Mm => μ14) (fun μ14 eμ14 => ?_)
    have fμ14 : Fs [59, 60] μ μ14 := by
      rw [eμ14]
      exact (Fs.call fμ12 (fs_X12_ruled μ12) (by simp))
    exact fμ14
  · exact Fs.rfl
set_option maxRecDepth 20000 in
set_option maxHeartbeats 400000 in
theorem fsw_X12_bears_21  (s : Int32 × Int32 × Mm) : Fs [50, 53, 1001] (s.2.2) ((whl (fun s : Int32 × Int32 × Mm => bd_X12_bears_21  s.1 s.2.1 s.2.2) (fun s : Int32 × Int32 × Mm => (0, s.2.2)) FU s).2) := by
  have key : ∀ s : Int32 × Int32 × Mm, FsS [50, 53, 1001] (s.2.2) (fun s : Int32 × Int32 × Mm => s.2.2) (fun r : Int32 × Mm => r.2) ((fun s : Int32 × Int32 × Mm => bd_X12_bears_21  s.1 s.2.1 s.2.2) s) := by
    rintro ⟨x1, x2, μ⟩
    show FsS [50, 53, 1001] μ (fun s : Int32 × Int32 × Mm => s.2.2) (fun r : Int32 × Mm => r.2) (bd_X12_bears_21  x1 x2 μ)
    unfold bd_X12_bears_21
    refine FsS.ite ?_ ?_
    · exact FsS.inr Fs.rfl
    · refine lt_ (P := fun z => FsS [50, 53, 1001] μ (fun s : Int32 × Int32 × Mm => s.2.2) (fun r : Int32 × Mm => r.2) z) ((upI μ 53 (Int32.toNatClampNeg (14 + x1)) x2)) (fun μ3 : Mm => (if (v_X12_moment 53 μ3) ≤ 0 then .inl (x1, (x2 + 1), μ3) else (let μ6 : Mm := (upI μ3 49 1 0); (let μ9 : Mm := (e_X12_enters (Int32.toInt64 (2000 + (v_X12_moment 53 μ6))) μ6); .inr (x2, μ9))))) (fun μ3 eμ3 => ?_)
      have fμ3 : Fs [50, 53, 1001] μ μ3 := by
        rw [eμ3]
        exact (Fs.up Fs.rfl (by simp))
      refine FsS.ite ?_ ?_
      · exact FsS.inl fμ3
      · refine lt_ (P := fun z => FsS [50, 53, 1001] μ (fun s : Int32 × Int32 × Mm => s.2.2) (fun r : Int32 × Mm => r.2) z) ((upI μ3 49 1 0)) (fun μ6 : Mm => (let μ9 : Mm := (e_X12_enters (Int32.toInt64 (2000 + (v_X12_moment 53 μ6))) μ6); .inr (x2, μ9))) (fun μ6 eμ6 => ?_)
        have fμ6 : Fs [50, 53, 1001] μ μ6 := by
          rw [eμ6]
          exact (Fs.upF fμ3 (by simp))
        refine lt_ (P := fun z => FsS [50, 53, 1001] μ (fun s : Int32 × Int32 × Mm => s.2.2) (fun r : Int32 × Mm => r.2) z) ((e_X12_enters (Int32.toInt64 (2000 + (v_X12_moment 53 μ6))) μ6)) (fun μ9 : Mm => .inr (x2, μ9)) (fun μ9 eμ9 => ?_)
        have fμ9 : Fs [50, 53, 1001] μ μ9 := by
          rw [eμ9]
          exact (Fs.call fμ6 (fs_X12_enters (Int32.toInt64 (2000 + (v_X12_moment 53 μ6))) μ6) (by simp))
        exact FsS.inr fμ9
  exact Fs_whlK (S := [50, 53, 1001]) (f := (fun s : Int32 × Int32 × Mm => bd_X12_bears_21  s.1 s.2.1 s.2.2)) (dd := (fun s : Int32 × Int32 × Mm => (0, s.2.2))) (fun s : Int32 × Int32 × Mm => s.2.2) (fun r : Int32 × Mm => r.2) (fun _ => rfl) key FU s
set_option maxRecDepth 20000 in
set_option maxHeartbeats 400000 in
theorem fs_X12_bears (p0 : Int32) (μ : Mm) : Fs [50, 53, 1000, 1001] μ (e_X12_bears p0 μ) := by
  unfold e_X12_bears
  refine lt_ (P := fun z => Fs [50, 53, 1000, 1001] μ z) ((upI μ 49 0 0)) (fun μ1 : Mm => (if (v_X12_isOne p0 μ1) = 0 then μ1 else (let μ4 : Mm := (e_X12_copies  μ1); (whl (fun s : Int32 × Int32 × Mm => bd_X12_bears_21  s.1 s.2.1 s.2.2) (fun s : Int32 × Int32 × Mm => (0, s.2.2)) FU (p0, 0, μ4)).2))) (fun μ1 eμ1 => ?_)
  have fμ1 : Fs [50, 53, 1000, 1001] μ μ1 := by
    rw [eμ1]
    exact (Fs.upF Fs.rfl (by simp))
  refine Fs.ite ?_ ?_
  · exact fμ1
  · refine lt_ (P := fun z => Fs [50, 53, 1000, 1001] μ z) ((e_X12_copies  μ1)) (fun μ4 : Mm => (whl (fun s : Int32 × Int32 × Mm => bd_X12_bears_21  s.1 s.2.1 s.2.2) (fun s : Int32 × Int32 × Mm => (0, s.2.2)) FU (p0, 0, μ4)).2) (fun μ4 eμ4 => ?_)
    have fμ4 : Fs [50, 53, 1000, 1001] μ μ4 := by
      rw [eμ4]
      exact (Fs.call fμ1 (fs_X12_copies μ1) (by simp))
    exact Fs.call fμ4 (fsw_X12_bears_21  _) (by simp)
set_option maxRecDepth 20000 in
set_option maxHeartbeats 400000 in
theorem fs_X12_clears  (μ : Mm) : Fs [50, 1000, 1001] μ (e_X12_clears  μ) := by
  unfold e_X12_clears
  refine lt_ (P := fun z => Fs [50, 1000, 1001] μ z) ((upI μ 49 0 0)) (fun μ1 : Mm => (let r3 : Int32 := whl (fun s : Int32 × Int32 => bd_X12_clears_9  μ1 s.1 s.2) (fun _ : Int32 × Int32 => 0) FU ((-1), 0); (let μ5 : Mm := (e_X12_entersFewest r3 μ1); μ5))) (fun μ1 eμ1 => ?_)
  have fμ1 : Fs [50, 1000, 1001] μ μ1 := by
    rw [eμ1]
    exact (Fs.upF Fs.rfl (by simp))
  refine lt_ (P := fun z => Fs [50, 1000, 1001] μ z) (whl (fun s : Int32 × Int32 => bd_X12_clears_9  μ1 s.1 s.2) (fun _ : Int32 × Int32 => 0) FU ((-1), 0)) (fun r3 : Int32 => (let μ5 : Mm := (e_X12_entersFewest r3 μ1); μ5)) (fun r3 er3 => ?_)
  refine lt_ (P := fun z => Fs [50, 1000, 1001] μ z) ((e_X12_entersFewest r3 μ1)) (fun μ5 : Mm => μ5) (fun μ5 eμ5 => ?_)
  have fμ5 : Fs [50, 1000, 1001] μ μ5 := by
    rw [eμ5]
    exact (Fs.call fμ1 (fs_X12_entersFewest r3 μ1) (by simp))
  exact fμ5
set_option maxRecDepth 20000 in
set_option maxHeartbeats 400000 in
theorem fs_X12_count (p0 : Int32) (μ : Mm) : Fs [1000] μ (e_X12_count p0 μ) := by
  unfold e_X12_count
  refine lt_ (P := fun z => Fs [1000] μ z) ((upI μ 49 0 0)) (fun μ1 : Mm => μ1) (fun μ1 eμ1 => ?_)
  have fμ1 : Fs [1000] μ μ1 := by
    rw [eμ1]
    exact (Fs.upF Fs.rfl (by simp))
  exact fμ1
set_option maxRecDepth 20000 in
set_option maxHeartbeats 400000 in
theorem fsw_X12_minuteGoes_65 (p0 : Nat) (s : Int32 × Int32 × Mm) : Fs [p0] (s.2.2) ((whl (fun s : Int32 × Int32 × Mm => bd_X12_minuteGoes_65 p0 s.1 s.2.1 s.2.2) (fun s : Int32 × Int32 × Mm => (0, s.2.2)) FU s).2) := by
  have key : ∀ s : Int32 × Int32 × Mm, FsS [p0] (s.2.2) (fun s : Int32 × Int32 × Mm => s.2.2) (fun r : Int32 × Mm => r.2) ((fun s : Int32 × Int32 × Mm => bd_X12_minuteGoes_65 p0 s.1 s.2.1 s.2.2) s) := by
    rintro ⟨x3, x4, μ⟩
    show FsS [p0] μ (fun s : Int32 × Int32 × Mm => s.2.2) (fun r : Int32 × Mm => r.2) (bd_X12_minuteGoes_65 p0 x3 x4 μ)
    unfold bd_X12_minuteGoes_65
    refine FsS.ite ?_ ?_
    · exact FsS.inr Fs.rfl
    · refine lt_ (P := fun z => FsS [p0] μ (fun s : Int32 × Int32 × Mm => s.2.2) (fun r : Int32 × Mm => r.2) z) ((upI μ p0 (Int32.toNatClampNeg (7 + x4)) ((μ.1 p0 (Int32.toNatClampNeg (7 + x4))) + (μ.1 62 (Int32.toNatClampNeg x4))))) (fun μ5 : Mm => .inl (x3, (x4 + 1), μ5)) (fun μ5 eμ5 => ?_)
      have fμ5 : Fs [p0] μ μ5 := by
        rw [eμ5]
        exact (Fs.up Fs.rfl (by simp))
      exact FsS.inl fμ5
  exact Fs_whlK (S := [p0]) (f := (fun s : Int32 × Int32 × Mm => bd_X12_minuteGoes_65 p0 s.1 s.2.1 s.2.2)) (dd := (fun s : Int32 × Int32 × Mm => (0, s.2.2))) (fun s : Int32 × Int32 × Mm => s.2.2) (fun r : Int32 × Mm => r.2) (fun _ => rfl) key FU s
set_option maxRecDepth 20000 in
set_option maxHeartbeats 400000 in
theorem fsw_X12_minuteGoes_11 (p0 : Nat) (s : Int32 × Int32 × Int32 × Mm) : Fs [59, 60, 62] (s.2.2.2) ((whl (fun s : Int32 × Int32 × Int32 × Mm => bd_X12_minuteGoes_11 p0 s.1 s.2.1 s.2.2.1 s.2.2.2) (fun s : Int32 × Int32 × Int32 × Mm => (0, s.2.2.2)) FU s).2) := by
  have key : ∀ s : Int32 × Int32 × Int32 × Mm, FsS [59, 60, 62] (s.2.2.2) (fun s : Int32 × Int32 × Int32 × Mm => s.2.2.2) (fun r : Int32 × Mm => r.2) ((fun s : Int32 × Int32 × Int32 × Mm => bd_X12_minuteGoes_11 p0 s.1 s.2.1 s.2.2.1 s.2.2.2) s) := by
    rintro ⟨x2, x3, x4, μ⟩
    show FsS [59, 60, 62] μ (fun s : Int32 × Int32 × Int32 × Mm => s.2.2.2) (fun r : Int32 × Mm => r.2) (bd_X12_minuteGoes_11 p0 x2 x3 x4 μ)
    unfold bd_X12_minuteGoes_11
    refine FsS.ite ?_ ?_
    · exact FsS.inr Fs.rfl
    · refine lt_ (P := fun z => FsS [59, 60, 62] μ (fun s : Int32 × Int32 × Int32 × Mm => s.2.2.2) (fun r : Int32 × Mm => r.2) z) ((e_X12_walksTo p0 x4 x2 μ)) (fun μ3 : Mm => (let μ5 : Mm := (upI μ3 62 (Int32.toNatClampNeg x4) (v_X12_walksTo p0 x4 x2 μ)); .inl (x2, (x3 + (v_X12_flag (if (μ5.1 62 (Int32.toNatClampNeg x4)) = 0 then 0 else 1 : Int32))), (x4 + 1), μ5))) (fun μ3 eμ3 => ?_)
      have fμ3 : Fs [59, 60, 62] μ μ3 := by
        rw [eμ3]
        exact (Fs.call Fs.rfl (fs_X12_walksTo p0 x4 x2 μ) (by simp))
      refine lt_ (P := fun z => FsS [59, 60, 62] μ (fun s : Int32 × Int32 × Int32 × Mm => s.2.2.2) (fun r : Int32 × Mm => r.2) z) ((upI μ3 62 (Int32.toNatClampNeg x4) (v_X12_walksTo p0 x4 x2 μ))) (fun μ5 : Mm => .inl (x2, (x3 + (v_X12_flag (if (μ5.1 62 (Int32.toNatClampNeg x4)) = 0 then 0 else 1 : Int32))), (x4 + 1), μ5)) (fun μ5 eμ5 => ?_)
      have fμ5 : Fs [59, 60, 62] μ μ5 := by
        rw [eμ5]
        exact (Fs.up fμ3 (by simp))
      exact FsS.inl fμ5
  exact Fs_whlK (S := [59, 60, 62]) (f := (fun s : Int32 × Int32 × Int32 × Mm => bd_X12_minuteGoes_11 p0 s.1 s.2.1 s.2.2.1 s.2.2.2)) (dd := (fun s : Int32 × Int32 × Int32 × Mm => (0, s.2.2.2))) (fun s : Int32 × Int32 × Int32 × Mm => s.2.2.2) (fun r : Int32 × Mm => r.2) (fun _ => rfl) key FU s
set_option maxRecDepth 20000 in
set_option maxHeartbeats 400000 in
theorem fs_X12_minuteGoes (p0 : Nat) (μ : Mm) : Fs [59, 60, 62, p0] μ (e_X12_minuteGoes p0 μ) := by
  unfold e_X12_minuteGoes
  refine lt_ (P := fun z => Fs [59, 60, 62, p0] μ z) (whl (fun s : Int32 × Int32 × Int32 × Mm => bd_X12_minuteGoes_11 p0 s.1 s.2.1 s.2.2.1 s.2.2.2) (fun s : Int32 × Int32 × Int32 × Mm => (0, s.2.2.2)) FU ((v_X12_moment p0 μ), 0, 0, μ)) (fun r3 : Int32 × Mm => (let r5 : Int32 × Mm := whl (fun s : Int32 × Int32 × Mm => bd_X12_minuteGoes_65 p0 s.1 s.2.1 s.2.2) (fun s : Int32 × Int32 × Mm => (0, s.2.2)) FU ((r3.1), 0, (r3.2)); (let μ6 : Mm := (upI (r5.2) p0 (Int32.toNatClampNeg 22) (((r5.2).1 p0 (Int32.toNatClampNeg 22)) + 1)); μ6))) (fun r3 er3 => ?_)
  have fr3 : Fs [59, 60, 62, p0] μ (r3.2) := by
    rw [er3]
    exact Fs.call Fs.rfl (fsw_X12_minuteGoes_11 p0 _) (by simp)
  refine lt_ (P := fun z => Fs [59, 60, 62, p0] μ z) (whl (fun s : Int32 × Int32 × Mm => bd_X12_minuteGoes_65 p0 s.1 s.2.1 s.2.2) (fun s : Int32 × Int32 × Mm => (0, s.2.2)) FU ((r3.1), 0, (r3.2))) (fun r5 : Int32 × Mm => (let μ6 : Mm := (upI (r5.2) p0 (Int32.toNatClampNeg 22) (((r5.2).1 p0 (Int32.toNatClampNeg 22)) + 1)); μ6)) (fun r5 er5 => ?_)
  have fr5 : Fs [59, 60, 62, p0] μ (r5.2) := by
    rw [er5]
    exact Fs.call fr3 (fsw_X12_minuteGoes_65 p0 _) (by simp)
  refine lt_ (P := fun z => Fs [59, 60, 62, p0] μ z) ((upI (r5.2) p0 (Int32.toNatClampNeg 22) (((r5.2).1 p0 (Int32.toNatClampNeg 22)) + 1))) (fun μ6 : Mm => μ6) (fun μ6 eμ6 => ?_)
  have fμ6 : Fs [59, 60, 62, p0] μ μ6 := by
    rw [eμ6]
    exact (Fs.up fr5 (by simp))
  exact fμ6
set_option maxRecDepth 20000 in
set_option maxHeartbeats 400000 in
theorem fs_X12_one (p0 : Int32) (p1 : Int32) (μ : Mm) : Fs [59, 60, 1000] μ (e_X12_one p0 p1 μ) := by
  unfold e_X12_one
  refine lt_ (P := fun z => Fs [59, 60, 1000] μ z) ((upI μ 49 0 0)) (fun μ1 : Mm => (if (v_X12_isOne p0 μ1) = 0 then (let μ3 : Mm := (e_X12_refuse  μ1); μ3) else (if (v_X12_in (Int32.toInt64 p1) 0 5) = 0 then (let μ5 : Mm := (e_X12_refuse  μ1); μ5) else (if p1 = 0 then μ1 else (if p1 = 1 then μ1 else (if p1 = 2 then μ1 else (if p1 = 3 then μ1 else (if p1 = 4 then μ1 else (let μ18 : Mm := (e_X12_walksTo 52 p0 (v_X12_moment 52 μ1) μ1); μ18))))))))) (fun μ1 eμ1 => ?_)
  have fμ1 : Fs [59, 60, 1000] μ μ1 := by
    rw [eμ1]
    exact (Fs.upF Fs.rfl (by simp))
  refine Fs.ite ?_ ?_
  · refine lt_ (P := fun z => Fs [59, 60, 1000] μ z) ((e_X12_refuse  μ1)) (fun μ3 : Mm => μ3) (fun μ3 eμ3 => ?_)
    have fμ3 : Fs [59, 60, 1000] μ μ3 := by
      rw [eμ3]
      exact (Fs.call fμ1 (fs_X12_refuse μ1) (by simp))
    exact fμ3
  · refine Fs.ite ?_ ?_
    · refine lt_ (P := fun z => Fs [59, 60, 1000] μ z) ((e_X12_refuse  μ1)) (fun μ5 : Mm => μ5) (fun μ5 eμ5 => ?_)
      have fμ5 : Fs [59, 60, 1000] μ μ5 := by
        rw [eμ5]
        exact (Fs.call fμ1 (fs_X12_refuse μ1) (by simp))
      exact fμ5
    · refine Fs.ite ?_ ?_
      · exact fμ1
      · refine Fs.ite ?_ ?_
        · exact fμ1
        · refine Fs.ite ?_ ?_
          · exact fμ1
          · refine Fs.ite ?_ ?_
            · exact fμ1
            · refine Fs.ite ?_ ?_
              · exact fμ1
              · refine lt_ (P := fun z => Fs [59, 60, 1000] μ z) ((e_X12_walksTo 52 p0 (v_X12_moment 52 μ1) μ1)) (fun μ18 : Mm => μ18) (fun μ18 eμ18 => ?_)
                have fμ18 : Fs [59, 60, 1000] μ μ18 := by
                  rw [eμ18]
                  exact (Fs.call fμ1 (fs_X12_walksTo 52 p0 (v_X12_moment 52 μ1) μ1) (by simp))
                exact fμ18
set_option maxRecDepth 20000 in
set_option maxHeartbeats 400000 in
theorem fsw_X12_takesOf_2 (p0 : Nat) (s : Int32 × Mm) : Fs [1010] (s.2) ((whl (fun s : Int32 × Mm => bd_X12_takesOf_2 p0 s.1 s.2) (fun s : Int32 × Mm => (0, s.2)) FU s).2) := by
  have key : ∀ s : Int32 × Mm, FsS [1010] (s.2) (fun s : Int32 × Mm => s.2) (fun r : Int32 × Mm => r.2) ((fun s : Int32 × Mm => bd_X12_takesOf_2 p0 s.1 s.2) s) := by
    rintro ⟨x2, μ⟩
    show FsS [1010] μ (fun s : Int32 × Mm => s.2) (fun r : Int32 × Mm => r.2) (bd_X12_takesOf_2 p0 x2 μ)
    unfold bd_X12_takesOf_2
    refine FsS.ite ?_ ?_
    · exact FsS.inr Fs.rfl
    · refine FsS.ite ?_ ?_
      · exact FsS.inr Fs.rfl
      · refine FsS.ite ?_ ?_
        · refine lt_ (P := fun z => FsS [1010] μ (fun s : Int32 × Mm => s.2) (fun r : Int32 × Mm => r.2) z) ((upI μ 49 10 ((μ.1 49 10) + 1))) (fun μ6 : Mm => .inr (x2, μ6)) (fun μ6 eμ6 => ?_)
          have fμ6 : Fs [1010] μ μ6 := by
            rw [eμ6]
            exact (Fs.upF Fs.rfl (by simp))
          exact FsS.inr fμ6
        · exact FsS.inl Fs.rfl
  exact Fs_whlK (S := [1010]) (f := (fun s : Int32 × Mm => bd_X12_takesOf_2 p0 s.1 s.2)) (dd := (fun s : Int32 × Mm => (0, s.2))) (fun s : Int32 × Mm => s.2) (fun r : Int32 × Mm => r.2) (fun _ => rfl) key FU s
set_option maxRecDepth 20000 in
set_option maxHeartbeats 400000 in
theorem fs_X12_takesOf (p0 : Nat) (μ : Mm) : Fs [1010] μ (e_X12_takesOf p0 μ) := by
  unfold e_X12_takesOf
  exact Fs.call Fs.rfl (fsw_X12_takesOf_2 p0 _) (by simp)
set_option maxRecDepth 20000 in
set_option maxHeartbeats 400000 in
theorem fs_X12_tips  (μ : Mm) : Fs [50, 1000, 1001] μ (e_X12_tips  μ) := by
  unfold e_X12_tips
  refine lt_ (P := fun z => Fs [50, 1000, 1001] μ z) ((upI μ 49 0 0)) (fun μ1 : Mm => (let r3 : Int32 × Int32 := whl (fun s : Int32 × Int32 × Int32 => bd_X12_tips_11  μ1 s.1 s.2.1 s.2.2) (fun _ : Int32 × Int32 × Int32 => (0, 0)) FU (0, 0, 0); (let μ4 : Mm := (upI μ1 49 1 0); (let μ7 : Mm := (e_X12_enters (Int32.toInt64 (v_X12_momentOf 52 (r3.1) μ4)) μ4); (let μ10 : Mm := (e_X12_enters (Int32.toInt64 (-(v_X12_momentOf 52 (r3.2) μ7))) μ7); (let μ14 : Mm := (e_X12_enters (Int32.toInt64 (v_X12_loadOf 52 (v_X12_standingOn 52 0 μ10) μ10)) μ10); μ14)))))) (fun μ1 eμ1 => ?_)
  have fμ1 : Fs [50, 1000, 1001] μ μ1 := by
    rw [eμ1]
    exact (Fs.upF Fs.rfl (by simp))
  refine lt_ (P := fun z => Fs [50, 1000, 1001] μ z) (whl (fun s : Int32 × Int32 × Int32 => bd_X12_tips_11  μ1 s.1 s.2.1 s.2.2) (fun _ : Int32 × Int32 × Int32 => (0, 0)) FU (0, 0, 0)) (fun r3 : Int32 × Int32 => (let μ4 : Mm := (upI μ1 49 1 0); (let μ7 : Mm := (e_X12_enters (Int32.toInt64 (v_X12_momentOf 52 (r3.1) μ4)) μ4); (let μ10 : Mm := (e_X12_enters (Int32.toInt64 (-(v_X12_momentOf 52 (r3.2) μ7))) μ7); (let μ14 : Mm := (e_X12_enters (Int32.toInt64 (v_X12_loadOf 52 (v_X12_standingOn 52 0 μ10) μ10)) μ10); μ14))))) (fun r3 er3 => ?_)
  refine lt_ (P := fun z => Fs [50, 1000, 1001] μ z) ((upI μ1 49 1 0)) (fun μ4 : Mm => (let μ7 : Mm := (e_X12_enters (Int32.toInt64 (v_X12_momentOf 52 (r3.1) μ4)) μ4); (let μ10 : Mm := (e_X12_enters (Int32.toInt64 (-(v_X12_momentOf 52 (r3.2) μ7))) μ7); (let μ14 : Mm := (e_X12_enters (Int32.toInt64 (v_X12_loadOf 52 (v_X12_standingOn 52 0 μ10) μ10)) μ10); μ14)))) (fun μ4 eμ4 => ?_)
  have fμ4 : Fs [50, 1000, 1001] μ μ4 := by
    rw [eμ4]
    exact (Fs.upF fμ1 (by simp))
  refine lt_ (P := fun z => Fs [50, 1000, 1001] μ z) ((e_X12_enters (Int32.toInt64 (v_X12_momentOf 52 (r3.1) μ4)) μ4)) (fun μ7 : Mm => (let μ10 : Mm := (e_X12_enters (Int32.toInt64 (-(v_X12_momentOf 52 (r3.2) μ7))) μ7); (let μ14 : Mm := (e_X12_enters (Int32.toInt64 (v_X12_loadOf 52 (v_X12_standingOn 52 0 μ10) μ10)) μ10); μ14))) (fun μ7 eμ7 => ?_)
  have fμ7 : Fs [50, 1000, 1001] μ μ7 := by
    rw [eμ7]
    exact (Fs.call fμ4 (fs_X12_enters (Int32.toInt64 (v_X12_momentOf 52 (r3.1) μ4)) μ4) (by simp))
  refine lt_ (P := fun z => Fs [50, 1000, 1001] μ z) ((e_X12_enters (Int32.toInt64 (-(v_X12_momentOf 52 (r3.2) μ7))) μ7)) (fun μ10 : Mm => (let μ14 : Mm := (e_X12_enters (Int32.toInt64 (v_X12_loadOf 52 (v_X12_standingOn 52 0 μ10) μ10)) μ10); μ14)) (fun μ10 eμ10 => ?_)
  have fμ10 : Fs [50, 1000, 1001] μ μ10 := by
    rw [eμ10]
    exact (Fs.call fμ7 (fs_X12_enters (Int32.toInt64 (-(v_X12_momentOf 52 (r3.2) μ7))) μ7) (by simp))
  refine lt_ (P := fun z => Fs [50, 1000, 1001] μ z) ((e_X12_enters (Int32.toInt64 (v_X12_loadOf 52 (v_X12_standingOn 52 0 μ10) μ10)) μ10)) (fun μ14 : Mm => μ14) (fun μ14 eμ14 => ?_)
  have fμ14 : Fs [50, 1000, 1001] μ μ14 := by
    rw [eμ14]
    exact (Fs.call fμ10 (fs_X12_enters (Int32.toInt64 (v_X12_loadOf 52 (v_X12_standingOn 52 0 μ10) μ10)) μ10) (by simp))
  exact fμ14
set_option maxRecDepth 20000 in
set_option maxHeartbeats 400000 in
theorem fsw_X12_walks_96  (s : Int32 × Int32 × Int32 × Int32 × Int32 × Mm) : Fs [50, 1001] (s.2.2.2.2.2) ((whl (fun s : Int32 × Int32 × Int32 × Int32 × Int32 × Mm => bd_X12_walks_96  s.1 s.2.1 s.2.2.1 s.2.2.2.1 s.2.2.2.2.1 s.2.2.2.2.2) (fun s : Int32 × Int32 × Int32 × Int32 × Int32 × Mm => (0, s.2.2.2.2.2)) FU s).2) := by
  have key : ∀ s : Int32 × Int32 × Int32 × Int32 × Int32 × Mm, FsS [50, 1001] (s.2.2.2.2.2) (fun s : Int32 × Int32 × Int32 × Int32 × Int32 × Mm => s.2.2.2.2.2) (fun r : Int32 × Mm => r.2) ((fun s : Int32 × Int32 × Int32 × Int32 × Int32 × Mm => bd_X12_walks_96  s.1 s.2.1 s.2.2.1 s.2.2.2.1 s.2.2.2.2.1 s.2.2.2.2.2) s) := by
    rintro ⟨x1, x2, x3, x4, x5, μ⟩
    show FsS [50, 1001] μ (fun s : Int32 × Int32 × Int32 × Int32 × Int32 × Mm => s.2.2.2.2.2) (fun r : Int32 × Mm => r.2) (bd_X12_walks_96  x1 x2 x3 x4 x5 μ)
    unfold bd_X12_walks_96
    refine FsS.ite ?_ ?_
    · exact FsS.inr Fs.rfl
    · refine lt_ (P := fun z => FsS [50, 1001] μ (fun s : Int32 × Int32 × Int32 × Int32 × Int32 × Mm => s.2.2.2.2.2) (fun r : Int32 × Mm => r.2) z) (whl (fun s : Int32 × Int32 × Int32 × Int32 × Int32 × Int32 => bd_X12_walks_119  μ s.1 s.2.1 s.2.2.1 s.2.2.2.1 s.2.2.2.2.1 s.2.2.2.2.2) (fun _ : Int32 × Int32 × Int32 × Int32 × Int32 × Int32 => (0, 0, 0, 0, 0, 0)) FU (x1, x2, x3, x4, x5, (if (v_X12_room x1 x5 μ) < x4 then (v_X12_room x1 x5 μ) else x4))) (fun r4 : Int32 × Int32 × Int32 × Int32 × Int32 × Int32 => (let μ6 : Mm := (e_X12_enters (Int32.toInt64 (r4.2.2.2.2.2)) μ); .inl ((r4.1), ((r4.2.1) + ((r4.2.2.2.2.2) * (v_X12_load 52 (r4.2.2.2.2.1) μ6))), (r4.2.2.1), ((r4.2.2.2.1) - (r4.2.2.2.2.2)), ((r4.2.2.2.2.1) + 1), μ6))) (fun r4 er4 => ?_)
      refine lt_ (P := fun z => FsS [50, 1001] μ (fun s : Int32 × Int32 × Int32 × Int32 × Int32 × Mm => s.2.2.2.2.2) (fun r : Int32 × Mm => r.2) z) ((e_X12_enters (Int32.toInt64 (r4.2.2.2.2.2)) μ)) (fun μ6 : Mm => .inl ((r4.1), ((r4.2.1) + ((r4.2.2.2.2.2) * (v_X12_load 52 (r4.2.2.2.2.1) μ6))), (r4.2.2.1), ((r4.2.2.2.1) - (r4.2.2.2.2.2)), ((r4.2.2.2.2.1) + 1), μ6)) (fun μ6 eμ6 => ?_)
      have fμ6 : Fs [50, 1001] μ μ6 := by
        rw [eμ6]
        exact (Fs.call Fs.rfl (fs_X12_enters (Int32.toInt64 (r4.2.2.2.2.2)) μ) (by simp))
      exact FsS.inl fμ6
  exact Fs_whlK (S := [50, 1001]) (f := (fun s : Int32 × Int32 × Int32 × Int32 × Int32 × Mm => bd_X12_walks_96  s.1 s.2.1 s.2.2.1 s.2.2.2.1 s.2.2.2.2.1 s.2.2.2.2.2)) (dd := (fun s : Int32 × Int32 × Int32 × Int32 × Int32 × Mm => (0, s.2.2.2.2.2))) (fun s : Int32 × Int32 × Int32 × Int32 × Int32 × Mm => s.2.2.2.2.2) (fun r : Int32 × Mm => r.2) (fun _ => rfl) key FU s
set_option maxRecDepth 20000 in
set_option maxHeartbeats 400000 in
theorem fs_X12_walks (p0 : Int32) (μ : Mm) : Fs [50, 66, 1000, 1001] μ (e_X12_walks p0 μ) := by
  unfold e_X12_walks
  refine lt_ (P := fun z => Fs [50, 66, 1000, 1001] μ z) ((upI μ 49 0 0)) (fun μ1 : Mm => (if (v_X12_in (Int32.toInt64 p0) 0 (Int32.toInt64 (v_X12_all  μ1))) = 0 then μ1 else (if (p0 &&& (μ1.1 52 (Int32.toNatClampNeg 21))) = 0 then (let μ5 : Mm := (e_X12_laysWon p0 μ1); (let r8 : Int32 × Int32 × Int32 := whl (fun s : Int32 × Int32 × Int32 => bd_X12_walks_49  μ5 s.1 s.2.1 s.2.2) (fun _ : Int32 × Int32 × Int32 => (0, 0, 0)) FU (p0, (v_X12_moment 52 μ5), 0); (if (r8.2.2) ≤ 126 then (let μ10 : Mm := (upI μ5 49 1 0); (let r12 : Int32 × Mm := whl (fun s : Int32 × Int32 × Int32 × Int32 × Int32 × Mm => bd_X12_walks_96  s.1 s.2.1 s.2.2.1 s.2.2.2.1 s.2.2.2.2.1 s.2.2.2.2.2) (fun s : Int32 × Int32 × Int32 × Int32 × Int32 × Mm => (0, s.2.2.2.2.2)) FU ((r8.1), (r8.2.1), (r8.2.2), (r8.2.2), 0, μ10); (r12.2))) else μ5))) else μ1))) (fun μ1 eμ1 => ?_)
  have fμ1 : Fs [50, 66, 1000, 1001] μ μ1 := by
    rw [eμ1]
    exact (Fs.upF Fs.rfl (by simp))
  refine Fs.ite ?_ ?_
  · exact fμ1
  · refine Fs.ite ?_ ?_
    · refine lt_ (P := fun z => Fs [50, 66, 1000, 1001] μ z) ((e_X12_laysWon p0 μ1)) (fun μ5 : Mm => (let r8 : Int32 × Int32 × Int32 := whl (fun s : Int32 × Int32 × Int32 => bd_X12_walks_49  μ5 s.1 s.2.1 s.2.2) (fun _ : Int32 × Int32 × Int32 => (0, 0, 0)) FU (p0, (v_X12_moment 52 μ5), 0); (if (r8.2.2) ≤ 126 then (let μ10 : Mm := (upI μ5 49 1 0); (let r12 : Int32 × Mm := whl (fun s : Int32 × Int32 × Int32 × Int32 × Int32 × Mm => bd_X12_walks_96  s.1 s.2.1 s.2.2.1 s.2.2.2.1 s.2.2.2.2.1 s.2.2.2.2.2) (fun s : Int32 × Int32 × Int32 × Int32 × Int32 × Mm => (0, s.2.2.2.2.2)) FU ((r8.1), (r8.2.1), (r8.2.2), (r8.2.2), 0, μ10); (r12.2))) else μ5))) (fun μ5 eμ5 => ?_)
      have fμ5 : Fs [50, 66, 1000, 1001] μ μ5 := by
        rw [eμ5]
        exact (Fs.call fμ1 (fs_X12_laysWon p0 μ1) (by simp))
      refine lt_ (P := fun z => Fs [50, 66, 1000, 1001] μ z) (whl (fun s : Int32 × Int32 × Int32 => bd_X12_walks_49  μ5 s.1 s.2.1 s.2.2) (fun _ : Int32 × Int32 × Int32 => (0, 0, 0)) FU (p0, (v_X12_moment 52 μ5), 0)) (fun r8 : Int32 × Int32 × Int32 => (if (r8.2.2) ≤ 126 then (let μ10 : Mm := (upI μ5 49 1 0); (let r12 : Int32 × Mm := whl (fun s : Int32 × Int32 × Int32 × Int32 × Int32 × Mm => bd_X12_walks_96  s.1 s.2.1 s.2.2.1 s.2.2.2.1 s.2.2.2.2.1 s.2.2.2.2.2) (fun s : Int32 × Int32 × Int32 × Int32 × Int32 × Mm => (0, s.2.2.2.2.2)) FU ((r8.1), (r8.2.1), (r8.2.2), (r8.2.2), 0, μ10); (r12.2))) else μ5)) (fun r8 er8 => ?_)
      refine Fs.ite ?_ ?_
      · refine lt_ (P := fun z => Fs [50, 66, 1000, 1001] μ z) ((upI μ5 49 1 0)) (fun μ10 : Mm => (let r12 : Int32 × Mm := whl (fun s : Int32 × Int32 × Int32 × Int32 × Int32 × Mm => bd_X12_walks_96  s.1 s.2.1 s.2.2.1 s.2.2.2.1 s.2.2.2.2.1 s.2.2.2.2.2) (fun s : Int32 × Int32 × Int32 × Int32 × Int32 × Mm => (0, s.2.2.2.2.2)) FU ((r8.1), (r8.2.1), (r8.2.2), (r8.2.2), 0, μ10); (r12.2))) (fun μ10 eμ10 => ?_)
        have fμ10 : Fs [50, 66, 1000, 1001] μ μ10 := by
          rw [eμ10]
          exact (Fs.upF fμ5 (by simp))
        refine lt_ (P := fun z => Fs [50, 66, 1000, 1001] μ z) (whl (fun s : Int32 × Int32 × Int32 × Int32 × Int32 × Mm => bd_X12_walks_96  s.1 s.2.1 s.2.2.1 s.2.2.2.1 s.2.2.2.2.1 s.2.2.2.2.2) (fun s : Int32 × Int32 × Int32 × Int32 × Int32 × Mm => (0, s.2.2.2.2.2)) FU ((r8.1), (r8.2.1), (r8.2.2), (r8.2.2), 0, μ10)) (fun r12 : Int32 × Mm => (r12.2)) (fun r12 er12 => ?_)
        have fr12 : Fs [50, 66, 1000, 1001] μ (r12.2) := by
          rw [er12]
          exact Fs.call fμ10 (fsw_X12_walks_96  _) (by simp)
        exact fr12
      · exact fμ5
    · exact fμ1
set_option maxRecDepth 20000 in
set_option maxHeartbeats 400000 in
theorem fs_X12_wall  (μ : Mm) : Fs [50, 1000, 1001] μ (e_X12_wall  μ) := by
  unfold e_X12_wall
  refine lt_ (P := fun z => Fs [50, 1000, 1001] μ z) ((upI μ 49 0 0)) (fun μ1 : Mm => (let r3 : Int32 := whl (fun s : Int32 × Int32 => bd_X12_wall_9  μ1 s.1 s.2) (fun _ : Int32 × Int32 => 0) FU ((-1), 0); (let μ5 : Mm := (e_X12_entersFewest r3 μ1); μ5))) (fun μ1 eμ1 => ?_)
  have fμ1 : Fs [50, 1000, 1001] μ μ1 := by
    rw [eμ1]
    exact (Fs.upF Fs.rfl (by simp))
  refine lt_ (P := fun z => Fs [50, 1000, 1001] μ z) (whl (fun s : Int32 × Int32 => bd_X12_wall_9  μ1 s.1 s.2) (fun _ : Int32 × Int32 => 0) FU ((-1), 0)) (fun r3 : Int32 => (let μ5 : Mm := (e_X12_entersFewest r3 μ1); μ5)) (fun r3 er3 => ?_)
  refine lt_ (P := fun z => Fs [50, 1000, 1001] μ z) ((e_X12_entersFewest r3 μ1)) (fun μ5 : Mm => μ5) (fun μ5 eμ5 => ?_)
  have fμ5 : Fs [50, 1000, 1001] μ μ5 := by
    rw [eμ5]
    exact (Fs.call fμ1 (fs_X12_entersFewest r3 μ1) (by simp))
  exact fμ5
set_option maxRecDepth 20000 in
set_option maxHeartbeats 400000 in
theorem fsw_X12_goesOn_5 (p0 : Nat) (s : Int32 × Int32 × Int32 × Mm) : Fs [59, 60, 62, p0] (s.2.2.2) ((whl (fun s : Int32 × Int32 × Int32 × Mm => bd_X12_goesOn_5 p0 s.1 s.2.1 s.2.2.1 s.2.2.2) (fun s : Int32 × Int32 × Int32 × Mm => (0, s.2.2.2)) FU s).2) := by
  have key : ∀ s : Int32 × Int32 × Int32 × Mm, FsS [59, 60, 62, p0] (s.2.2.2) (fun s : Int32 × Int32 × Int32 × Mm => s.2.2.2) (fun r : Int32 × Mm => r.2) ((fun s : Int32 × Int32 × Int32 × Mm => bd_X12_goesOn_5 p0 s.1 s.2.1 s.2.2.1 s.2.2.2) s) := by
    rintro ⟨x2, x3, x4, μ⟩
    show FsS [59, 60, 62, p0] μ (fun s : Int32 × Int32 × Int32 × Mm => s.2.2.2) (fun r : Int32 × Mm => r.2) (bd_X12_goesOn_5 p0 x2 x3 x4 μ)
    unfold bd_X12_goesOn_5
    refine FsS.ite ?_ ?_
    · exact FsS.inr Fs.rfl
    · refine lt_ (P := fun z => FsS [59, 60, 62, p0] μ (fun s : Int32 × Int32 × Int32 × Mm => s.2.2.2) (fun r : Int32 × Mm => r.2) z) ((e_X12_minuteGoes p0 μ)) (fun μ3 : Mm => .inl (x2, (x3 + (v_X12_minuteGoes p0 μ)), (x4 + 1), μ3)) (fun μ3 eμ3 => ?_)
      have fμ3 : Fs [59, 60, 62, p0] μ μ3 := by
        rw [eμ3]
        exact (Fs.call Fs.rfl (fs_X12_minuteGoes p0 μ) (by simp))
      exact FsS.inl fμ3
  exact Fs_whlK (S := [59, 60, 62, p0]) (f := (fun s : Int32 × Int32 × Int32 × Mm => bd_X12_goesOn_5 p0 s.1 s.2.1 s.2.2.1 s.2.2.2)) (dd := (fun s : Int32 × Int32 × Int32 × Mm => (0, s.2.2.2))) (fun s : Int32 × Int32 × Int32 × Mm => s.2.2.2) (fun r : Int32 × Mm => r.2) (fun _ => rfl) key FU s
set_option maxRecDepth 20000 in
set_option maxHeartbeats 400000 in
theorem fs_X12_goesOn (p0 : Nat) (p1 : Int32) (μ : Mm) : Fs [59, 60, 62, p0] μ (e_X12_goesOn p0 p1 μ) := by
  unfold e_X12_goesOn
  refine lt_ (P := fun z => Fs [59, 60, 62, p0] μ z) (whl (fun s : Int32 × Int32 × Int32 × Mm => bd_X12_goesOn_5 p0 s.1 s.2.1 s.2.2.1 s.2.2.2) (fun s : Int32 × Int32 × Int32 × Mm => (0, s.2.2.2)) FU (p1, 0, 0, μ)) (fun r2 : Int32 × Mm => (r2.2)) (fun r2 er2 => ?_)
  have fr2 : Fs [59, 60, 62, p0] μ (r2.2) := by
    rw [er2]
    exact Fs.call Fs.rfl (fsw_X12_goesOn_5 p0 _) (by simp)
  exact fr2
set_option maxRecDepth 20000 in
set_option maxHeartbeats 400000 in
theorem fsw_X12_isAsSeen_19  (s : Int32 × Int32 × Int32 × Int32 × Mm) : Fs [53, 59, 60, 62, 70] (s.2.2.2.2) ((whl (fun s : Int32 × Int32 × Int32 × Int32 × Mm => bd_X12_isAsSeen_19  s.1 s.2.1 s.2.2.1 s.2.2.2.1 s.2.2.2.2) (fun s : Int32 × Int32 × Int32 × Int32 × Mm => (0, s.2.2.2.2)) FU s).2) := by
  have key : ∀ s : Int32 × Int32 × Int32 × Int32 × Mm, FsS [53, 59, 60, 62, 70] (s.2.2.2.2) (fun s : Int32 × Int32 × Int32 × Int32 × Mm => s.2.2.2.2) (fun r : Int32 × Mm => r.2) ((fun s : Int32 × Int32 × Int32 × Int32 × Mm => bd_X12_isAsSeen_19  s.1 s.2.1 s.2.2.1 s.2.2.2.1 s.2.2.2.2) s) := by
    rintro ⟨x1, x2, x3, x4, μ⟩
    show FsS [53, 59, 60, 62, 70] μ (fun s : Int32 × Int32 × Int32 × Int32 × Mm => s.2.2.2.2) (fun r : Int32 × Mm => r.2) (bd_X12_isAsSeen_19  x1 x2 x3 x4 μ)
    unfold bd_X12_isAsSeen_19
    refine FsS.ite ?_ ?_
    · exact FsS.inr Fs.rfl
    · refine lt_ (P := fun z => FsS [53, 59, 60, 62, 70] μ (fun s : Int32 × Int32 × Int32 × Int32 × Mm => s.2.2.2.2) (fun r : Int32 × Mm => r.2) z) ((upI μ 70 (Int32.toNatClampNeg (v_X12_page x2 x4)) (μ.1 53 (Int32.toNatClampNeg (7 + x1))))) (fun μ4 : Mm => (let r6 : Int32 × Int32 × Int32 × Int32 := whl (fun s : Int32 × Int32 × Int32 × Int32 × Int32 => bd_X12_isAsSeen_49  μ4 s.1 s.2.1 s.2.2.1 s.2.2.2.1 s.2.2.2.2) (fun _ : Int32 × Int32 × Int32 × Int32 × Int32 => (0, 0, 0, 0)) FU (x1, x2, x3, x4, 0); (let μ8 : Mm := (e_X12_minuteGoes 53 μ4); .inl ((r6.1), (r6.2.1), (r6.2.2.1), ((r6.2.2.2) + 1), μ8)))) (fun μ4 eμ4 => ?_)
      have fμ4 : Fs [53, 59, 60, 62, 70] μ μ4 := by
        rw [eμ4]
        exact (Fs.up Fs.rfl (by simp))
      refine lt_ (P := fun z => FsS [53, 59, 60, 62, 70] μ (fun s : Int32 × Int32 × Int32 × Int32 × Mm => s.2.2.2.2) (fun r : Int32 × Mm => r.2) z) (whl (fun s : Int32 × Int32 × Int32 × Int32 × Int32 => bd_X12_isAsSeen_49  μ4 s.1 s.2.1 s.2.2.1 s.2.2.2.1 s.2.2.2.2) (fun _ : Int32 × Int32 × Int32 × Int32 × Int32 => (0, 0, 0, 0)) FU (x1, x2, x3, x4, 0)) (fun r6 : Int32 × Int32 × Int32 × Int32 => (let μ8 : Mm := (e_X12_minuteGoes 53 μ4); .inl ((r6.1), (r6.2.1), (r6.2.2.1), ((r6.2.2.2) + 1), μ8))) (fun r6 er6 => ?_)
      refine lt_ (P := fun z => FsS [53, 59, 60, 62, 70] μ (fun s : Int32 × Int32 × Int32 × Int32 × Mm => s.2.2.2.2) (fun r : Int32 × Mm => r.2) z) ((e_X12_minuteGoes 53 μ4)) (fun μ8 : Mm => .inl ((r6.1), (r6.2.1), (r6.2.2.1), ((r6.2.2.2) + 1), μ8)) (fun μ8 eμ8 => ?_)
      have fμ8 : Fs [53, 59, 60, 62, 70] μ μ8 := by
        rw [eμ8]
        exact (Fs.call fμ4 (fs_X12_minuteGoes 53 μ4) (by simp))
      exact FsS.inl fμ8
  exact Fs_whlK (S := [53, 59, 60, 62, 70]) (f := (fun s : Int32 × Int32 × Int32 × Int32 × Mm => bd_X12_isAsSeen_19  s.1 s.2.1 s.2.2.1 s.2.2.2.1 s.2.2.2.2)) (dd := (fun s : Int32 × Int32 × Int32 × Int32 × Mm => (0, s.2.2.2.2))) (fun s : Int32 × Int32 × Int32 × Int32 × Mm => s.2.2.2.2) (fun r : Int32 × Mm => r.2) (fun _ => rfl) key FU s
set_option maxRecDepth 20000 in
set_option maxHeartbeats 400000 in
theorem fs_X12_isAsSeen (p0 : Int32) (p1 : Int32) (μ : Mm) : Fs [53, 59, 60, 62, 70] μ (e_X12_isAsSeen p0 p1 μ) := by
  unfold e_X12_isAsSeen
  refine lt_ (P := fun z => Fs [53, 59, 60, 62, 70] μ z) ((e_X12_copies  μ)) (fun μ2 : Mm => (let μ4 : Mm := (upI μ2 53 (Int32.toNatClampNeg p0) (p1 - 9)); (let r6 : Int32 × Mm := whl (fun s : Int32 × Int32 × Int32 × Int32 × Mm => bd_X12_isAsSeen_19  s.1 s.2.1 s.2.2.1 s.2.2.2.1 s.2.2.2.2) (fun s : Int32 × Int32 × Int32 × Int32 × Mm => (0, s.2.2.2.2)) FU (p0, p1, 1, 0, μ4); (r6.2)))) (fun μ2 eμ2 => ?_)
  have fμ2 : Fs [53, 59, 60, 62, 70] μ μ2 := by
    rw [eμ2]
    exact (Fs.call Fs.rfl (fs_X12_copies μ) (by simp))
  refine lt_ (P := fun z => Fs [53, 59, 60, 62, 70] μ z) ((upI μ2 53 (Int32.toNatClampNeg p0) (p1 - 9))) (fun μ4 : Mm => (let r6 : Int32 × Mm := whl (fun s : Int32 × Int32 × Int32 × Int32 × Mm => bd_X12_isAsSeen_19  s.1 s.2.1 s.2.2.1 s.2.2.2.1 s.2.2.2.2) (fun s : Int32 × Int32 × Int32 × Int32 × Mm => (0, s.2.2.2.2)) FU (p0, p1, 1, 0, μ4); (r6.2))) (fun μ4 eμ4 => ?_)
  have fμ4 : Fs [53, 59, 60, 62, 70] μ μ4 := by
    rw [eμ4]
    exact (Fs.up fμ2 (by simp))
  refine lt_ (P := fun z => Fs [53, 59, 60, 62, 70] μ z) (whl (fun s : Int32 × Int32 × Int32 × Int32 × Mm => bd_X12_isAsSeen_19  s.1 s.2.1 s.2.2.1 s.2.2.2.1 s.2.2.2.2) (fun s : Int32 × Int32 × Int32 × Int32 × Mm => (0, s.2.2.2.2)) FU (p0, p1, 1, 0, μ4)) (fun r6 : Int32 × Mm => (r6.2)) (fun r6 er6 => ?_)
  have fr6 : Fs [53, 59, 60, 62, 70] μ (r6.2) := by
    rw [er6]
    exact Fs.call fμ4 (fsw_X12_isAsSeen_19  _) (by simp)
  exact fr6
set_option maxRecDepth 20000 in
set_option maxHeartbeats 400000 in
theorem fsw_X12_level_18  (s : Int32 × Int32 × Mm) : Fs [50, 53, 59, 60, 62, 1001] (s.2.2) ((whl (fun s : Int32 × Int32 × Mm => bd_X12_level_18  s.1 s.2.1 s.2.2) (fun s : Int32 × Int32 × Mm => (0, s.2.2)) FU s).2) := by
  have key : ∀ s : Int32 × Int32 × Mm, FsS [50, 53, 59, 60, 62, 1001] (s.2.2) (fun s : Int32 × Int32 × Mm => s.2.2) (fun r : Int32 × Mm => r.2) ((fun s : Int32 × Int32 × Mm => bd_X12_level_18  s.1 s.2.1 s.2.2) s) := by
    rintro ⟨x1, x2, μ⟩
    show FsS [50, 53, 59, 60, 62, 1001] μ (fun s : Int32 × Int32 × Mm => s.2.2) (fun r : Int32 × Mm => r.2) (bd_X12_level_18  x1 x2 μ)
    unfold bd_X12_level_18
    refine FsS.ite ?_ ?_
    · exact FsS.inr Fs.rfl
    · refine lt_ (P := fun z => FsS [50, 53, 59, 60, 62, 1001] μ (fun s : Int32 × Int32 × Mm => s.2.2) (fun r : Int32 × Mm => r.2) z) ((if (if (v_X12_moment 53 μ) = 0 then 1 else 0 : Int32) = 0 then μ else (if x1 = 0 then ((e_X12_enters (Int32.toInt64 x2) μ)) else μ : Mm) : Mm)) (fun μ9 : Mm => (let μ11 : Mm := (e_X12_minuteGoes 53 μ9); .inl ((x1 + (v_X12_flag (if (v_X12_moment 53 μ) = 0 then 1 else 0 : Int32))), (x2 + 1), μ11))) (fun μ9 eμ9 => ?_)
      have fμ9 : Fs [50, 53, 59, 60, 62, 1001] μ μ9 := by
        rw [eμ9]
        exact (Fs.ite Fs.rfl (Fs.ite (Fs.call Fs.rfl (fs_X12_enters (Int32.toInt64 x2) μ) (by simp)) Fs.rfl))
      refine lt_ (P := fun z => FsS [50, 53, 59, 60, 62, 1001] μ (fun s : Int32 × Int32 × Mm => s.2.2) (fun r : Int32 × Mm => r.2) z) ((e_X12_minuteGoes 53 μ9)) (fun μ11 : Mm => .inl ((x1 + (v_X12_flag (if (v_X12_moment 53 μ) = 0 then 1 else 0 : Int32))), (x2 + 1), μ11)) (fun μ11 eμ11 => ?_)
      have fμ11 : Fs [50, 53, 59, 60, 62, 1001] μ μ11 := by
        rw [eμ11]
        exact (Fs.call fμ9 (fs_X12_minuteGoes 53 μ9) (by simp))
      exact FsS.inl fμ11
  exact Fs_whlK (S := [50, 53, 59, 60, 62, 1001]) (f := (fun s : Int32 × Int32 × Mm => bd_X12_level_18  s.1 s.2.1 s.2.2)) (dd := (fun s : Int32 × Int32 × Mm => (0, s.2.2))) (fun s : Int32 × Int32 × Mm => s.2.2) (fun r : Int32 × Mm => r.2) (fun _ => rfl) key FU s
set_option maxRecDepth 20000 in
set_option maxHeartbeats 400000 in
theorem fs_X12_level  (μ : Mm) : Fs [50, 53, 59, 60, 62, 1000, 1001] μ (e_X12_level  μ) := by
  unfold e_X12_level
  refine lt_ (P := fun z => Fs [50, 53, 59, 60, 62, 1000, 1001] μ z) ((upI μ 49 0 0)) (fun μ1 : Mm => (let μ3 : Mm := (e_X12_copies  μ1); (let μ4 : Mm := (upI μ3 49 1 0); (let r6 : Int32 × Mm := whl (fun s : Int32 × Int32 × Mm => bd_X12_level_18  s.1 s.2.1 s.2.2) (fun s : Int32 × Int32 × Mm => (0, s.2.2)) FU (0, 0, μ4); (r6.2))))) (fun μ1 eμ1 => ?_)
  have fμ1 : Fs [50, 53, 59, 60, 62, 1000, 1001] μ μ1 := by
    rw [eμ1]
    exact (Fs.upF Fs.rfl (by simp))
  refine lt_ (P := fun z => Fs [50, 53, 59, 60, 62, 1000, 1001] μ z) ((e_X12_copies  μ1)) (fun μ3 : Mm => (let μ4 : Mm := (upI μ3 49 1 0); (let r6 : Int32 × Mm := whl (fun s : Int32 × Int32 × Mm => bd_X12_level_18  s.1 s.2.1 s.2.2) (fun s : Int32 × Int32 × Mm => (0, s.2.2)) FU (0, 0, μ4); (r6.2)))) (fun μ3 eμ3 => ?_)
  have fμ3 : Fs [50, 53, 59, 60, 62, 1000, 1001] μ μ3 := by
    rw [eμ3]
    exact (Fs.call fμ1 (fs_X12_copies μ1) (by simp))
  refine lt_ (P := fun z => Fs [50, 53, 59, 60, 62, 1000, 1001] μ z) ((upI μ3 49 1 0)) (fun μ4 : Mm => (let r6 : Int32 × Mm := whl (fun s : Int32 × Int32 × Mm => bd_X12_level_18  s.1 s.2.1 s.2.2) (fun s : Int32 × Int32 × Mm => (0, s.2.2)) FU (0, 0, μ4); (r6.2))) (fun μ4 eμ4 => ?_)
  have fμ4 : Fs [50, 53, 59, 60, 62, 1000, 1001] μ μ4 := by
    rw [eμ4]
    exact (Fs.upF fμ3 (by simp))
  refine lt_ (P := fun z => Fs [50, 53, 59, 60, 62, 1000, 1001] μ z) (whl (fun s : Int32 × Int32 × Mm => bd_X12_level_18  s.1 s.2.1 s.2.2) (fun s : Int32 × Int32 × Mm => (0, s.2.2)) FU (0, 0, μ4)) (fun r6 : Int32 × Mm => (r6.2)) (fun r6 er6 => ?_)
  have fr6 : Fs [50, 53, 59, 60, 62, 1000, 1001] μ (r6.2) := by
    rw [er6]
    exact Fs.call fμ4 (fsw_X12_level_18  _) (by simp)
  exact fr6
set_option maxRecDepth 20000 in
set_option maxHeartbeats 400000 in
theorem fs_X12_readsSigned (p0 : Nat) (μ : Mm) : Fs [1010, 1013] μ (e_X12_readsSigned p0 μ) := by
  unfold e_X12_readsSigned
  refine lt_ (P := fun z => Fs [1010, 1013] μ z) ((e_X12_takesOf p0 μ)) (fun μ2 : Mm => (let μ6 : Mm := (if 0 ≤ (v_X12_takesOf p0 μ) then ((e_X12_number 1 μ2)) else μ2 : Mm); (let μ9 : Mm := (upI μ6 49 13 (if (v_X12_takesOf p0 μ) = 1 then (if 0 ≤ (v_X12_takesOf p0 μ) then (v_X12_number 1 μ2) else (-1) : Int32) else (-(if 0 ≤ (v_X12_takesOf p0 μ) then (v_X12_number 1 μ2) else (-1) : Int32)) : Int32)); μ9))) (fun μ2 eμ2 => ?_)
  have fμ2 : Fs [1010, 1013] μ μ2 := by
    rw [eμ2]
    exact (Fs.call Fs.rfl (fs_X12_takesOf p0 μ) (by simp))
  refine lt_ (P := fun z => Fs [1010, 1013] μ z) ((if 0 ≤ (v_X12_takesOf p0 μ) then ((e_X12_number 1 μ2)) else μ2 : Mm)) (fun μ6 : Mm => (let μ9 : Mm := (upI μ6 49 13 (if (v_X12_takesOf p0 μ) = 1 then (if 0 ≤ (v_X12_takesOf p0 μ) then (v_X12_number 1 μ2) else (-1) : Int32) else (-(if 0 ≤ (v_X12_takesOf p0 μ) then (v_X12_number 1 μ2) else (-1) : Int32)) : Int32)); μ9)) (fun μ6 eμ6 => ?_)
  have fμ6 : Fs [1010, 1013] μ μ6 := by
    rw [eμ6]
    exact (Fs.ite (Fs.call fμ2 (fs_X12_number 1 μ2) (by simp)) fμ2)
  refine lt_ (P := fun z => Fs [1010, 1013] μ z) ((upI μ6 49 13 (if (v_X12_takesOf p0 μ) = 1 then (if 0 ≤ (v_X12_takesOf p0 μ) then (v_X12_number 1 μ2) else (-1) : Int32) else (-(if 0 ≤ (v_X12_takesOf p0 μ) then (v_X12_number 1 μ2) else (-1) : Int32)) : Int32))) (fun μ9 : Mm => μ9) (fun μ9 eμ9 => ?_)
  have fμ9 : Fs [1010, 1013] μ μ9 := by
    rw [eμ9]
    exact (Fs.upF fμ6 (by simp))
  exact fμ9
set_option maxRecDepth 20000 in
set_option maxHeartbeats 400000 in
theorem fsw_X12_rest_11  (s : Int32 × Mm) : Fs [50, 53, 59, 60, 62, 1001] (s.2) ((whl (fun s : Int32 × Mm => bd_X12_rest_11  s.1 s.2) (fun s : Int32 × Mm => (0, s.2)) FU s).2) := by
  have key : ∀ s : Int32 × Mm, FsS [50, 53, 59, 60, 62, 1001] (s.2) (fun s : Int32 × Mm => s.2) (fun r : Int32 × Mm => r.2) ((fun s : Int32 × Mm => bd_X12_rest_11  s.1 s.2) s) := by
    rintro ⟨x1, μ⟩
    show FsS [50, 53, 59, 60, 62, 1001] μ (fun s : Int32 × Mm => s.2) (fun r : Int32 × Mm => r.2) (bd_X12_rest_11  x1 μ)
    unfold bd_X12_rest_11
    refine FsS.ite ?_ ?_
    · exact FsS.inr Fs.rfl
    · refine lt_ (P := fun z => FsS [50, 53, 59, 60, 62, 1001] μ (fun s : Int32 × Mm => s.2) (fun r : Int32 × Mm => r.2) z) ((e_X12_minuteGoes 53 μ)) (fun μ4 : Mm => (if (v_X12_minuteGoes 53 μ) = 0 then (let μ6 : Mm := (upI μ4 49 1 0); (let μ8 : Mm := (e_X12_enters (Int32.toInt64 (2000 + (v_X12_moment 53 μ))) μ6); .inr (x1, μ8))) else .inl ((x1 + 1), μ4))) (fun μ4 eμ4 => ?_)
      have fμ4 : Fs [50, 53, 59, 60, 62, 1001] μ μ4 := by
        rw [eμ4]
        exact (Fs.call Fs.rfl (fs_X12_minuteGoes 53 μ) (by simp))
      refine FsS.ite ?_ ?_
      · refine lt_ (P := fun z => FsS [50, 53, 59, 60, 62, 1001] μ (fun s : Int32 × Mm => s.2) (fun r : Int32 × Mm => r.2) z) ((upI μ4 49 1 0)) (fun μ6 : Mm => (let μ8 : Mm := (e_X12_enters (Int32.toInt64 (2000 + (v_X12_moment 53 μ))) μ6); .inr (x1, μ8))) (fun μ6 eμ6 => ?_)
        have fμ6 : Fs [50, 53, 59, 60, 62, 1001] μ μ6 := by
          rw [eμ6]
          exact (Fs.upF fμ4 (by simp))
        refine lt_ (P := fun z => FsS [50, 53, 59, 60, 62, 1001] μ (fun s : Int32 × Mm => s.2) (fun r : Int32 × Mm => r.2) z) ((e_X12_enters (Int32.toInt64 (2000 + (v_X12_moment 53 μ))) μ6)) (fun μ8 : Mm => .inr (x1, μ8)) (fun μ8 eμ8 => ?_)
        have fμ8 : Fs [50, 53, 59, 60, 62, 1001] μ μ8 := by
          rw [eμ8]
          exact (Fs.call fμ6 (fs_X12_enters (Int32.toInt64 (2000 + (v_X12_moment 53 μ))) μ6) (by simp))
        exact FsS.inr fμ8
      · exact FsS.inl fμ4
  exact Fs_whlK (S := [50, 53, 59, 60, 62, 1001]) (f := (fun s : Int32 × Mm => bd_X12_rest_11  s.1 s.2)) (dd := (fun s : Int32 × Mm => (0, s.2))) (fun s : Int32 × Mm => s.2) (fun r : Int32 × Mm => r.2) (fun _ => rfl) key FU s
set_option maxRecDepth 20000 in
set_option maxHeartbeats 400000 in
theorem fs_X12_rest  (μ : Mm) : Fs [50, 53, 59, 60, 62, 1000, 1001] μ (e_X12_rest  μ) := by
  unfold e_X12_rest
  refine lt_ (P := fun z => Fs [50, 53, 59, 60, 62, 1000, 1001] μ z) ((upI μ 49 0 0)) (fun μ1 : Mm => (let μ3 : Mm := (e_X12_copies  μ1); (whl (fun s : Int32 × Mm => bd_X12_rest_11  s.1 s.2) (fun s : Int32 × Mm => (0, s.2)) FU (0, μ3)).2)) (fun μ1 eμ1 => ?_)
  have fμ1 : Fs [50, 53, 59, 60, 62, 1000, 1001] μ μ1 := by
    rw [eμ1]
    exact (Fs.upF Fs.rfl (by simp))
  refine lt_ (P := fun z => Fs [50, 53, 59, 60, 62, 1000, 1001] μ z) ((e_X12_copies  μ1)) (fun μ3 : Mm => (whl (fun s : Int32 × Mm => bd_X12_rest_11  s.1 s.2) (fun s : Int32 × Mm => (0, s.2)) FU (0, μ3)).2) (fun μ3 eμ3 => ?_)
  have fμ3 : Fs [50, 53, 59, 60, 62, 1000, 1001] μ μ3 := by
    rw [eμ3]
    exact (Fs.call fμ1 (fs_X12_copies μ1) (by simp))
  exact Fs.call fμ3 (fsw_X12_rest_11  _) (by simp)
set_option maxRecDepth 20000 in
set_option maxHeartbeats 400000 in
theorem fsw_X12_swings_11  (s : Int32 × Mm) : Fs [50, 53, 59, 60, 62, 1001] (s.2) ((whl (fun s : Int32 × Mm => bd_X12_swings_11  s.1 s.2) (fun s : Int32 × Mm => (0, s.2)) FU s).2) := by
  have key : ∀ s : Int32 × Mm, FsS [50, 53, 59, 60, 62, 1001] (s.2) (fun s : Int32 × Mm => s.2) (fun r : Int32 × Mm => r.2) ((fun s : Int32 × Mm => bd_X12_swings_11  s.1 s.2) s) := by
    rintro ⟨x1, μ⟩
    show FsS [50, 53, 59, 60, 62, 1001] μ (fun s : Int32 × Mm => s.2) (fun r : Int32 × Mm => r.2) (bd_X12_swings_11  x1 μ)
    unfold bd_X12_swings_11
    refine FsS.ite ?_ ?_
    · exact FsS.inr Fs.rfl
    · refine lt_ (P := fun z => FsS [50, 53, 59, 60, 62, 1001] μ (fun s : Int32 × Mm => s.2) (fun r : Int32 × Mm => r.2) z) ((e_X12_minuteGoes 53 μ)) (fun μ3 : Mm => (if (v_X12_side (v_X12_moment 53 μ3)) = (v_X12_side (v_X12_moment 52 μ3)) then .inl ((x1 + 1), μ3) else (let μ7 : Mm := (upI μ3 49 1 0); (let μ10 : Mm := (e_X12_enters (Int32.toInt64 (1 + (v_X12_side (v_X12_moment 53 μ7)))) μ7); .inr (x1, μ10))))) (fun μ3 eμ3 => ?_)
      have fμ3 : Fs [50, 53, 59, 60, 62, 1001] μ μ3 := by
        rw [eμ3]
        exact (Fs.call Fs.rfl (fs_X12_minuteGoes 53 μ) (by simp))
      refine FsS.ite ?_ ?_
      · exact FsS.inl fμ3
      · refine lt_ (P := fun z => FsS [50, 53, 59, 60, 62, 1001] μ (fun s : Int32 × Mm => s.2) (fun r : Int32 × Mm => r.2) z) ((upI μ3 49 1 0)) (fun μ7 : Mm => (let μ10 : Mm := (e_X12_enters (Int32.toInt64 (1 + (v_X12_side (v_X12_moment 53 μ7)))) μ7); .inr (x1, μ10))) (fun μ7 eμ7 => ?_)
        have fμ7 : Fs [50, 53, 59, 60, 62, 1001] μ μ7 := by
          rw [eμ7]
          exact (Fs.upF fμ3 (by simp))
        refine lt_ (P := fun z => FsS [50, 53, 59, 60, 62, 1001] μ (fun s : Int32 × Mm => s.2) (fun r : Int32 × Mm => r.2) z) ((e_X12_enters (Int32.toInt64 (1 + (v_X12_side (v_X12_moment 53 μ7)))) μ7)) (fun μ10 : Mm => .inr (x1, μ10)) (fun μ10 eμ10 => ?_)
        have fμ10 : Fs [50, 53, 59, 60, 62, 1001] μ μ10 := by
          rw [eμ10]
          exact (Fs.call fμ7 (fs_X12_enters (Int32.toInt64 (1 + (v_X12_side (v_X12_moment 53 μ7)))) μ7) (by simp))
        exact FsS.inr fμ10
  exact Fs_whlK (S := [50, 53, 59, 60, 62, 1001]) (f := (fun s : Int32 × Mm => bd_X12_swings_11  s.1 s.2)) (dd := (fun s : Int32 × Mm => (0, s.2))) (fun s : Int32 × Mm => s.2) (fun r : Int32 × Mm => r.2) (fun _ => rfl) key FU s
set_option maxRecDepth 20000 in
set_option maxHeartbeats 400000 in
theorem fs_X12_swings  (μ : Mm) : Fs [50, 53, 59, 60, 62, 1000, 1001] μ (e_X12_swings  μ) := by
  unfold e_X12_swings
  refine lt_ (P := fun z => Fs [50, 53, 59, 60, 62, 1000, 1001] μ z) ((upI μ 49 0 0)) (fun μ1 : Mm => (let μ3 : Mm := (e_X12_copies  μ1); (whl (fun s : Int32 × Mm => bd_X12_swings_11  s.1 s.2) (fun s : Int32 × Mm => (0, s.2)) FU (1, μ3)).2)) (fun μ1 eμ1 => ?_)
  have fμ1 : Fs [50, 53, 59, 60, 62, 1000, 1001] μ μ1 := by
    rw [eμ1]
    exact (Fs.upF Fs.rfl (by simp))
  refine lt_ (P := fun z => Fs [50, 53, 59, 60, 62, 1000, 1001] μ z) ((e_X12_copies  μ1)) (fun μ3 : Mm => (whl (fun s : Int32 × Mm => bd_X12_swings_11  s.1 s.2) (fun s : Int32 × Mm => (0, s.2)) FU (1, μ3)).2) (fun μ3 eμ3 => ?_)
  have fμ3 : Fs [50, 53, 59, 60, 62, 1000, 1001] μ μ3 := by
    rw [eμ3]
    exact (Fs.call fμ1 (fs_X12_copies μ1) (by simp))
  exact Fs.call fμ3 (fsw_X12_swings_11  _) (by simp)
set_option maxRecDepth 20000 in
set_option maxHeartbeats 400000 in
theorem fsw_X12_years_33  (s : Int32 × Int32 × Int32 × Mm) : Fs [53, 59, 60, 62, 1041] (s.2.2.2) ((whl (fun s : Int32 × Int32 × Int32 × Mm => bd_X12_years_33  s.1 s.2.1 s.2.2.1 s.2.2.2) (fun s : Int32 × Int32 × Int32 × Mm => (0, s.2.2.2)) FU s).2) := by
  have key : ∀ s : Int32 × Int32 × Int32 × Mm, FsS [53, 59, 60, 62, 1041] (s.2.2.2) (fun s : Int32 × Int32 × Int32 × Mm => s.2.2.2) (fun r : Int32 × Mm => r.2) ((fun s : Int32 × Int32 × Int32 × Mm => bd_X12_years_33  s.1 s.2.1 s.2.2.1 s.2.2.2) s) := by
    rintro ⟨x2, x3, x4, μ⟩
    show FsS [53, 59, 60, 62, 1041] μ (fun s : Int32 × Int32 × Int32 × Mm => s.2.2.2) (fun r : Int32 × Mm => r.2) (bd_X12_years_33  x2 x3 x4 μ)
    unfold bd_X12_years_33
    refine FsS.ite ?_ ?_
    · exact FsS.inr Fs.rfl
    · refine lt_ (P := fun z => FsS [53, 59, 60, 62, 1041] μ (fun s : Int32 × Int32 × Int32 × Mm => s.2.2.2) (fun r : Int32 × Mm => r.2) z) ((e_X12_draws 4 μ)) (fun μ3 : Mm => (let μ16 : Mm := (if 2 ≤ (v_X12_draws 4 μ) then (if (μ3.1 49 3) ≤ 0 then μ3 else (if (v_X12_draws 4 μ) = 2 then ((upI ((e_X12_draws 10 ((e_X12_draws (μ3.1 49 3) μ3)))) 53 (Int32.toNatClampNeg (14 + (v_X12_draws (μ3.1 49 3) μ3))) (v_X12_draws 10 ((e_X12_draws (μ3.1 49 3) μ3))))) else ((e_X12_stepsOff 53 (v_X12_draws (μ3.1 49 3) μ3) ((e_X12_draws (μ3.1 49 3) μ3)))) : Mm) : Mm) else ((e_X12_minuteGoes 53 μ3)) : Mm); .inl (x2, (x3 + (v_X12_flag (if (v_X12_moment 53 μ16) ≤ 0 then 0 else 1 : Int32))), (x4 + 1), μ16))) (fun μ3 eμ3 => ?_)
      have fμ3 : Fs [53, 59, 60, 62, 1041] μ μ3 := by
        rw [eμ3]
        exact (Fs.call Fs.rfl (fs_X12_draws 4 μ) (by simp))
      refine lt_ (P := fun z => FsS [53, 59, 60, 62, 1041] μ (fun s : Int32 × Int32 × Int32 × Mm => s.2.2.2) (fun r : Int32 × Mm => r.2) z) ((if 2 ≤ (v_X12_draws 4 μ) then (if (μ3.1 49 3) ≤ 0 then μ3 else (if (v_X12_draws 4 μ) = 2 then ((upI ((e_X12_draws 10 ((e_X12_draws (μ3.1 49 3) μ3)))) 53 (Int32.toNatClampNeg (14 + (v_X12_draws (μ3.1 49 3) μ3))) (v_X12_draws 10 ((e_X12_draws (μ3.1 49 3) μ3))))) else ((e_X12_stepsOff 53 (v_X12_draws (μ3.1 49 3) μ3) ((e_X12_draws (μ3.1 49 3) μ3)))) : Mm) : Mm) else ((e_X12_minuteGoes 53 μ3)) : Mm)) (fun μ16 : Mm => .inl (x2, (x3 + (v_X12_flag (if (v_X12_moment 53 μ16) ≤ 0 then 0 else 1 : Int32))), (x4 + 1), μ16)) (fun μ16 eμ16 => ?_)
      have fμ16 : Fs [53, 59, 60, 62, 1041] μ μ16 := by
        rw [eμ16]
        exact (Fs.ite (Fs.ite fμ3 (Fs.ite (Fs.up (Fs.call (Fs.call fμ3 (fs_X12_draws (μ3.1 49 3) μ3) (by simp)) (fs_X12_draws 10 ((e_X12_draws (μ3.1 49 3) μ3))) (by simp)) (by simp)) (Fs.call (Fs.call fμ3 (fs_X12_draws (μ3.1 49 3) μ3) (by simp)) (fs_X12_stepsOff 53 (v_X12_draws (μ3.1 49 3) μ3) ((e_X12_draws (μ3.1 49 3) μ3))) (by simp)))) (Fs.call fμ3 (fs_X12_minuteGoes 53 μ3) (by simp)))
      exact FsS.inl fμ16
  exact Fs_whlK (S := [53, 59, 60, 62, 1041]) (f := (fun s : Int32 × Int32 × Int32 × Mm => bd_X12_years_33  s.1 s.2.1 s.2.2.1 s.2.2.2)) (dd := (fun s : Int32 × Int32 × Int32 × Mm => (0, s.2.2.2))) (fun s : Int32 × Int32 × Int32 × Mm => s.2.2.2) (fun r : Int32 × Mm => r.2) (fun _ => rfl) key FU s
set_option maxRecDepth 20000 in
set_option maxHeartbeats 400000 in
theorem fs_X12_years (p0 : Int32) (p1 : Int32) (μ : Mm) : Fs [50, 53, 59, 60, 62, 1000, 1001, 1041] μ (e_X12_years p0 p1 μ) := by
  unfold e_X12_years
  refine lt_ (P := fun z => Fs [50, 53, 59, 60, 62, 1000, 1001, 1041] μ z) ((upI μ 49 0 0)) (fun μ1 : Mm => (if (v_X12_in (Int32.toInt64 p1) 1 60) = 0 then μ1 else (let μ3 : Mm := (upI μ1 49 41 p0); (let μ5 : Mm := (e_X12_copies  μ3); (let r7 : Int32 × Mm := whl (fun s : Int32 × Int32 × Int32 × Mm => bd_X12_years_33  s.1 s.2.1 s.2.2.1 s.2.2.2) (fun s : Int32 × Int32 × Int32 × Mm => (0, s.2.2.2)) FU (p1, 0, 0, μ5); (let μ8 : Mm := (upI (r7.2) 49 1 0); (let μ10 : Mm := (e_X12_enters (Int32.toInt64 (r7.1)) μ8); (let μ12 : Mm := (e_X12_enters (Int32.toInt64 (v_X12_here 53 μ10)) μ10); μ12)))))))) (fun μ1 eμ1 => ?_)
  have fμ1 : Fs [50, 53, 59, 60, 62, 1000, 1001, 1041] μ μ1 := by
    rw [eμ1]
    exact (Fs.upF Fs.rfl (by simp))
  refine Fs.ite ?_ ?_
  · exact fμ1
  · refine lt_ (P := fun z => Fs [50, 53, 59, 60, 62, 1000, 1001, 1041] μ z) ((upI μ1 49 41 p0)) (fun μ3 : Mm => (let μ5 : Mm := (e_X12_copies  μ3); (let r7 : Int32 × Mm := whl (fun s : Int32 × Int32 × Int32 × Mm => bd_X12_years_33  s.1 s.2.1 s.2.2.1 s.2.2.2) (fun s : Int32 × Int32 × Int32 × Mm => (0, s.2.2.2)) FU (p1, 0, 0, μ5); (let μ8 : Mm := (upI (r7.2) 49 1 0); (let μ10 : Mm := (e_X12_enters (Int32.toInt64 (r7.1)) μ8); (let μ12 : Mm := (e_X12_enters (Int32.toInt64 (v_X12_here 53 μ10)) μ10); μ12)))))) (fun μ3 eμ3 => ?_)
    have fμ3 : Fs [50, 53, 59, 60, 62, 1000, 1001, 1041] μ μ3 := by
      rw [eμ3]
      exact (Fs.upF fμ1 (by simp))
    refine lt_ (P := fun z => Fs [50, 53, 59, 60, 62, 1000, 1001, 1041] μ z) ((e_X12_copies  μ3)) (fun μ5 : Mm => (let r7 : Int32 × Mm := whl (fun s : Int32 × Int32 × Int32 × Mm => bd_X12_years_33  s.1 s.2.1 s.2.2.1 s.2.2.2) (fun s : Int32 × Int32 × Int32 × Mm => (0, s.2.2.2)) FU (p1, 0, 0, μ5); (let μ8 : Mm := (upI (r7.2) 49 1 0); (let μ10 : Mm := (e_X12_enters (Int32.toInt64 (r7.1)) μ8); (let μ12 : Mm := (e_X12_enters (Int32.toInt64 (v_X12_here 53 μ10)) μ10); μ12))))) (fun μ5 eμ5 => ?_)
    have fμ5 : Fs [50, 53, 59, 60, 62, 1000, 1001, 1041] μ μ5 := by
      rw [eμ5]
      exact (Fs.call fμ3 (fs_X12_copies μ3) (by simp))
    refine lt_ (P := fun z => Fs [50, 53, 59, 60, 62, 1000, 1001, 1041] μ z) (whl (fun s : Int32 × Int32 × Int32 × Mm => bd_X12_years_33  s.1 s.2.1 s.2.2.1 s.2.2.2) (fun s : Int32 × Int32 × Int32 × Mm => (0, s.2.2.2)) FU (p1, 0, 0, μ5)) (fun r7 : Int32 × Mm => (let μ8 : Mm := (upI (r7.2) 49 1 0); (let μ10 : Mm := (e_X12_enters (Int32.toInt64 (r7.1)) μ8); (let μ12 : Mm := (e_X12_enters (Int32.toInt64 (v_X12_here 53 μ10)) μ10); μ12)))) (fun r7 er7 => ?_)
    have fr7 : Fs [50, 53, 59, 60, 62, 1000, 1001, 1041] μ (r7.2) := by
      rw [er7]
      exact Fs.call fμ5 (fsw_X12_years_33  _) (by simp)
    refine lt_ (P := fun z => Fs [50, 53, 59, 60, 62, 1000, 1001, 1041] μ z) ((upI (r7.2) 49 1 0)) (fun μ8 : Mm => (let μ10 : Mm := (e_X12_enters (Int32.toInt64 (r7.1)) μ8); (let μ12 : Mm := (e_X12_enters (Int32.toInt64 (v_X12_here 53 μ10)) μ10); μ12))) (fun μ8 eμ8 => ?_)
    have fμ8 : Fs [50, 53, 59, 60, 62, 1000, 1001, 1041] μ μ8 := by
      rw [eμ8]
      exact (Fs.upF fr7 (by simp))
    refine lt_ (P := fun z => Fs [50, 53, 59, 60, 62, 1000, 1001, 1041] μ z) ((e_X12_enters (Int32.toInt64 (r7.1)) μ8)) (fun μ10 : Mm => (let μ12 : Mm := (e_X12_enters (Int32.toInt64 (v_X12_here 53 μ10)) μ10); μ12)) (fun μ10 eμ10 => ?_)
    have fμ10 : Fs [50, 53, 59, 60, 62, 1000, 1001, 1041] μ μ10 := by
      rw [eμ10]
      exact (Fs.call fμ8 (fs_X12_enters (Int32.toInt64 (r7.1)) μ8) (by simp))
    refine lt_ (P := fun z => Fs [50, 53, 59, 60, 62, 1000, 1001, 1041] μ z) ((e_X12_enters (Int32.toInt64 (v_X12_here 53 μ10)) μ10)) (fun μ12 : Mm => μ12) (fun μ12 eμ12 => ?_)
    have fμ12 : Fs [50, 53, 59, 60, 62, 1000, 1001, 1041] μ μ12 := by
      rw [eμ12]
      exact (Fs.call fμ10 (fs_X12_enters (Int32.toInt64 (v_X12_here 53 μ10)) μ10) (by simp))
    exact fμ12
set_option maxRecDepth 20000 in
set_option maxHeartbeats 400000 in
theorem fs_X12_does (p0 : Int32) (μ : Mm) : Fs [52, 59, 60, 62] μ (e_X12_does p0 μ) := by
  unfold e_X12_does
  refine Fs.ite ?_ ?_
  · refine lt_ (P := fun z => Fs [52, 59, 60, 62] μ z) ((e_X12_goesOn 52 (μ.1 64 (Int32.toNatClampNeg p0)) μ)) (fun μ6 : Mm => μ6) (fun μ6 eμ6 => ?_)
    have fμ6 : Fs [52, 59, 60, 62] μ μ6 := by
      rw [eμ6]
      exact (Fs.call Fs.rfl (fs_X12_goesOn 52 (μ.1 64 (Int32.toNatClampNeg p0)) μ) (by simp))
    exact fμ6
  · refine Fs.ite ?_ ?_
    · refine lt_ (P := fun z => Fs [52, 59, 60, 62] μ z) ((e_X12_stepsOff 52 (μ.1 64 (Int32.toNatClampNeg p0)) μ)) (fun μ8 : Mm => μ8) (fun μ8 eμ8 => ?_)
      have fμ8 : Fs [52, 59, 60, 62] μ μ8 := by
        rw [eμ8]
        exact (Fs.call Fs.rfl (fs_X12_stepsOff 52 (μ.1 64 (Int32.toNatClampNeg p0)) μ) (by simp))
      exact fμ8
    · refine Fs.ite ?_ ?_
      · refine lt_ (P := fun z => Fs [52, 59, 60, 62] μ z) ((e_X12_sacksTo (μ.1 64 (Int32.toNatClampNeg p0)) (μ.1 65 (Int32.toNatClampNeg p0)) μ)) (fun μ14 : Mm => μ14) (fun μ14 eμ14 => ?_)
        have fμ14 : Fs [52, 59, 60, 62] μ μ14 := by
          rw [eμ14]
          exact (Fs.call Fs.rfl (fs_X12_sacksTo (μ.1 64 (Int32.toNatClampNeg p0)) (μ.1 65 (Int32.toNatClampNeg p0)) μ) (by simp))
        exact fμ14
      · refine Fs.ite ?_ ?_
        · refine lt_ (P := fun z => Fs [52, 59, 60, 62] μ z) ((e_X12_leadsTo (μ.1 64 (Int32.toNatClampNeg p0)) (μ.1 65 (Int32.toNatClampNeg p0)) μ)) (fun μ20 : Mm => μ20) (fun μ20 eμ20 => ?_)
          have fμ20 : Fs [52, 59, 60, 62] μ μ20 := by
            rw [eμ20]
            exact (Fs.call Fs.rfl (fs_X12_leadsTo (μ.1 64 (Int32.toNatClampNeg p0)) (μ.1 65 (Int32.toNatClampNeg p0)) μ) (by simp))
          exact fμ20
        · refine lt_ (P := fun z => Fs [52, 59, 60, 62] μ z) ((e_X12_wishesTo (μ.1 64 (Int32.toNatClampNeg p0)) (μ.1 65 (Int32.toNatClampNeg p0)) μ)) (fun μ25 : Mm => μ25) (fun μ25 eμ25 => ?_)
          have fμ25 : Fs [52, 59, 60, 62] μ μ25 := by
            rw [eμ25]
            exact (Fs.call Fs.rfl (fs_X12_wishesTo (μ.1 64 (Int32.toNatClampNeg p0)) (μ.1 65 (Int32.toNatClampNeg p0)) μ) (by simp))
          exact fμ25
set_option maxRecDepth 20000 in
set_option maxHeartbeats 400000 in
theorem fs_X12_goesToNoon  (μ : Mm) : Fs [53, 59, 60, 62] μ (e_X12_goesToNoon  μ) := by
  unfold e_X12_goesToNoon
  refine lt_ (P := fun z => Fs [53, 59, 60, 62] μ z) ((e_X12_copies  μ)) (fun μ2 : Mm => (let μ4 : Mm := (e_X12_goesOn 53 (if 0 < ((μ2.1 53 (Int32.toNatClampNeg 23)) - (μ2.1 53 (Int32.toNatClampNeg 22))) then ((μ2.1 53 (Int32.toNatClampNeg 23)) - (μ2.1 53 (Int32.toNatClampNeg 22))) else 0) μ2); μ4)) (fun μ2 eμ2 => ?_)
  have fμ2 : Fs [53, 59, 60, 62] μ μ2 := by
    rw [eμ2]
    exact (Fs.call Fs.rfl (fs_X12_copies μ) (by simp))
  refine lt_ (P := fun z => Fs [53, 59, 60, 62] μ z) ((e_X12_goesOn 53 (if 0 < ((μ2.1 53 (Int32.toNatClampNeg 23)) - (μ2.1 53 (Int32.toNatClampNeg 22))) then ((μ2.1 53 (Int32.toNatClampNeg 23)) - (μ2.1 53 (Int32.toNatClampNeg 22))) else 0) μ2)) (fun μ4 : Mm => μ4) (fun μ4 eμ4 => ?_)
  have fμ4 : Fs [53, 59, 60, 62] μ μ4 := by
    rw [eμ4]
    exact (Fs.call fμ2 (fs_X12_goesOn 53 (if 0 < ((μ2.1 53 (Int32.toNatClampNeg 23)) - (μ2.1 53 (Int32.toNatClampNeg 22))) then ((μ2.1 53 (Int32.toNatClampNeg 23)) - (μ2.1 53 (Int32.toNatClampNeg 22))) else 0) μ2) (by simp))
  exact fμ4
set_option maxRecDepth 20000 in
set_option maxHeartbeats 400000 in
theorem fs_X12_later (p0 : Int32) (p1 : Int32) (μ : Mm) : Fs [50, 53, 59, 60, 62, 1000, 1001] μ (e_X12_later p0 p1 μ) := by
  unfold e_X12_later
  refine lt_ (P := fun z => Fs [50, 53, 59, 60, 62, 1000, 1001] μ z) ((upI μ 49 0 0)) (fun μ1 : Mm => (if (v_X12_isOne p0 μ1) = 0 then μ1 else (if (v_X12_in (Int32.toInt64 p1) 0 60) = 0 then μ1 else (let μ5 : Mm := (e_X12_copies  μ1); (let μ7 : Mm := (e_X12_goesOn 53 p1 μ5); (let μ8 : Mm := (upI μ7 49 1 0); (let μ11 : Mm := (e_X12_enters (Int32.toInt64 (2000 + (v_X12_moment 53 μ8))) μ8); μ11))))))) (fun μ1 eμ1 => ?_)
  have fμ1 : Fs [50, 53, 59, 60, 62, 1000, 1001] μ μ1 := by
    rw [eμ1]
    exact (Fs.upF Fs.rfl (by simp))
  refine Fs.ite ?_ ?_
  · exact fμ1
  · refine Fs.ite ?_ ?_
    · exact fμ1
    · refine lt_ (P := fun z => Fs [50, 53, 59, 60, 62, 1000, 1001] μ z) ((e_X12_copies  μ1)) (fun μ5 : Mm => (let μ7 : Mm := (e_X12_goesOn 53 p1 μ5); (let μ8 : Mm := (upI μ7 49 1 0); (let μ11 : Mm := (e_X12_enters (Int32.toInt64 (2000 + (v_X12_moment 53 μ8))) μ8); μ11)))) (fun μ5 eμ5 => ?_)
      have fμ5 : Fs [50, 53, 59, 60, 62, 1000, 1001] μ μ5 := by
        rw [eμ5]
        exact (Fs.call fμ1 (fs_X12_copies μ1) (by simp))
      refine lt_ (P := fun z => Fs [50, 53, 59, 60, 62, 1000, 1001] μ z) ((e_X12_goesOn 53 p1 μ5)) (fun μ7 : Mm => (let μ8 : Mm := (upI μ7 49 1 0); (let μ11 : Mm := (e_X12_enters (Int32.toInt64 (2000 + (v_X12_moment 53 μ8))) μ8); μ11))) (fun μ7 eμ7 => ?_)
      have fμ7 : Fs [50, 53, 59, 60, 62, 1000, 1001] μ μ7 := by
        rw [eμ7]
        exact (Fs.call fμ5 (fs_X12_goesOn 53 p1 μ5) (by simp))
      refine lt_ (P := fun z => Fs [50, 53, 59, 60, 62, 1000, 1001] μ z) ((upI μ7 49 1 0)) (fun μ8 : Mm => (let μ11 : Mm := (e_X12_enters (Int32.toInt64 (2000 + (v_X12_moment 53 μ8))) μ8); μ11)) (fun μ8 eμ8 => ?_)
      have fμ8 : Fs [50, 53, 59, 60, 62, 1000, 1001] μ μ8 := by
        rw [eμ8]
        exact (Fs.upF fμ7 (by simp))
      refine lt_ (P := fun z => Fs [50, 53, 59, 60, 62, 1000, 1001] μ z) ((e_X12_enters (Int32.toInt64 (2000 + (v_X12_moment 53 μ8))) μ8)) (fun μ11 : Mm => μ11) (fun μ11 eμ11 => ?_)
      have fμ11 : Fs [50, 53, 59, 60, 62, 1000, 1001] μ μ11 := by
        rw [eμ11]
        exact (Fs.call fμ8 (fs_X12_enters (Int32.toInt64 (2000 + (v_X12_moment 53 μ8))) μ8) (by simp))
      exact fμ11
set_option maxRecDepth 20000 in
set_option maxHeartbeats 400000 in
theorem fs_X12_minutes (p0 : Int32) (μ : Mm) : Fs [50, 52, 59, 60, 61, 62, 1000, 1001, 1023] μ (e_X12_minutes p0 μ) := by
  unfold e_X12_minutes
  refine lt_ (P := fun z => Fs [50, 52, 59, 60, 61, 62, 1000, 1001, 1023] μ z) ((upI μ 49 0 0)) (fun μ1 : Mm => (if (v_X12_in (Int32.toInt64 p0) 0 60) = 0 then μ1 else (let μ4 : Mm := (e_X12_putsBy  μ1); (let μ6 : Mm := (e_X12_goesOn 52 p0 μ4); (let μ7 : Mm := (upI μ6 49 1 0); (let μ9 : Mm := (e_X12_enters (Int32.toInt64 (v_X12_goesOn 52 p0 μ4)) μ7); (let μ12 : Mm := (e_X12_enters (Int32.toInt64 (v_J6_bitCount_0f7a4 (v_X12_standingOn 52 9 μ9))) μ9); (let μ15 : Mm := (e_X12_enters (Int32.toInt64 (v_J6_bitCount_0f7a4 (v_X12_standingOn 52 (-9) μ12))) μ12); (let μ18 : Mm := (e_X12_adds (2000 + (v_X12_moment 52 μ15)) μ15); μ18))))))))) (fun μ1 eμ1 => ?_)
  have fμ1 : Fs [50, 52, 59, 60, 61, 62, 1000, 1001, 1023] μ μ1 := by
    rw [eμ1]
    exact (Fs.upF Fs.rfl (by simp))
  refine Fs.ite ?_ ?_
  · exact fμ1
  · refine lt_ (P := fun z => Fs [50, 52, 59, 60, 61, 62, 1000, 1001, 1023] μ z) ((e_X12_putsBy  μ1)) (fun μ4 : Mm => (let μ6 : Mm := (e_X12_goesOn 52 p0 μ4); (let μ7 : Mm := (upI μ6 49 1 0); (let μ9 : Mm := (e_X12_enters (Int32.toInt64 (v_X12_goesOn 52 p0 μ4)) μ7); (let μ12 : Mm := (e_X12_enters (Int32.toInt64 (v_J6_bitCount_0f7a4 (v_X12_standingOn 52 9 μ9))) μ9); (let μ15 : Mm := (e_X12_enters (Int32.toInt64 (v_J6_bitCount_0f7a4 (v_X12_standingOn 52 (-9) μ12))) μ12); (let μ18 : Mm := (e_X12_adds (2000 + (v_X12_moment 52 μ15)) μ15); μ18))))))) (fun μ4 eμ4 => ?_)
    have fμ4 : Fs [50, 52, 59, 60, 61, 62, 1000, 1001, 1023] μ μ4 := by
      rw [eμ4]
      exact (Fs.call fμ1 (fs_X12_putsBy μ1) (by simp))
    refine lt_ (P := fun z => Fs [50, 52, 59, 60, 61, 62, 1000, 1001, 1023] μ z) ((e_X12_goesOn 52 p0 μ4)) (fun μ6 : Mm => (let μ7 : Mm := (upI μ6 49 1 0); (let μ9 : Mm := (e_X12_enters (Int32.toInt64 (v_X12_goesOn 52 p0 μ4)) μ7); (let μ12 : Mm := (e_X12_enters (Int32.toInt64 (v_J6_bitCount_0f7a4 (v_X12_standingOn 52 9 μ9))) μ9); (let μ15 : Mm := (e_X12_enters (Int32.toInt64 (v_J6_bitCount_0f7a4 (v_X12_standingOn 52 (-9) μ12))) μ12); (let μ18 : Mm := (e_X12_adds (2000 + (v_X12_moment 52 μ15)) μ15); μ18)))))) (fun μ6 eμ6 => ?_)
    have fμ6 : Fs [50, 52, 59, 60, 61, 62, 1000, 1001, 1023] μ μ6 := by
      rw [eμ6]
      exact (Fs.call fμ4 (fs_X12_goesOn 52 p0 μ4) (by simp))
    refine lt_ (P := fun z => Fs [50, 52, 59, 60, 61, 62, 1000, 1001, 1023] μ z) ((upI μ6 49 1 0)) (fun μ7 : Mm => (let μ9 : Mm := (e_X12_enters (Int32.toInt64 (v_X12_goesOn 52 p0 μ4)) μ7); (let μ12 : Mm := (e_X12_enters (Int32.toInt64 (v_J6_bitCount_0f7a4 (v_X12_standingOn 52 9 μ9))) μ9); (let μ15 : Mm := (e_X12_enters (Int32.toInt64 (v_J6_bitCount_0f7a4 (v_X12_standingOn 52 (-9) μ12))) μ12); (let μ18 : Mm := (e_X12_adds (2000 + (v_X12_moment 52 μ15)) μ15); μ18))))) (fun μ7 eμ7 => ?_)
    have fμ7 : Fs [50, 52, 59, 60, 61, 62, 1000, 1001, 1023] μ μ7 := by
      rw [eμ7]
      exact (Fs.upF fμ6 (by simp))
    refine lt_ (P := fun z => Fs [50, 52, 59, 60, 61, 62, 1000, 1001, 1023] μ z) ((e_X12_enters (Int32.toInt64 (v_X12_goesOn 52 p0 μ4)) μ7)) (fun μ9 : Mm => (let μ12 : Mm := (e_X12_enters (Int32.toInt64 (v_J6_bitCount_0f7a4 (v_X12_standingOn 52 9 μ9))) μ9); (let μ15 : Mm := (e_X12_enters (Int32.toInt64 (v_J6_bitCount_0f7a4 (v_X12_standingOn 52 (-9) μ12))) μ12); (let μ18 : Mm := (e_X12_adds (2000 + (v_X12_moment 52 μ15)) μ15); μ18)))) (fun μ9 eμ9 => ?_)
    have fμ9 : Fs [50, 52, 59, 60, 61, 62, 1000, 1001, 1023] μ μ9 := by
      rw [eμ9]
      exact (Fs.call fμ7 (fs_X12_enters (Int32.toInt64 (v_X12_goesOn 52 p0 μ4)) μ7) (by simp))
    refine lt_ (P := fun z => Fs [50, 52, 59, 60, 61, 62, 1000, 1001, 1023] μ z) ((e_X12_enters (Int32.toInt64 (v_J6_bitCount_0f7a4 (v_X12_standingOn 52 9 μ9))) μ9)) (fun μ12 : Mm => (let μ15 : Mm := (e_X12_enters (Int32.toInt64 (v_J6_bitCount_0f7a4 (v_X12_standingOn 52 (-9) μ12))) μ12); (let μ18 : Mm := (e_X12_adds (2000 + (v_X12_moment 52 μ15)) μ15); μ18))) (fun μ12 eμ12 => ?_)
    have fμ12 : Fs [50, 52, 59, 60, 61, 62, 1000, 1001, 1023] μ μ12 := by
      rw [eμ12]
      exact (Fs.call fμ9 (fs_X12_enters (Int32.toInt64 (v_J6_bitCount_0f7a4 (v_X12_standingOn 52 9 μ9))) μ9) (by simp))
    refine lt_ (P := fun z => Fs [50, 52, 59, 60, 61, 62, 1000, 1001, 1023] μ z) ((e_X12_enters (Int32.toInt64 (v_J6_bitCount_0f7a4 (v_X12_standingOn 52 (-9) μ12))) μ12)) (fun μ15 : Mm => (let μ18 : Mm := (e_X12_adds (2000 + (v_X12_moment 52 μ15)) μ15); μ18)) (fun μ15 eμ15 => ?_)
    have fμ15 : Fs [50, 52, 59, 60, 61, 62, 1000, 1001, 1023] μ μ15 := by
      rw [eμ15]
      exact (Fs.call fμ12 (fs_X12_enters (Int32.toInt64 (v_J6_bitCount_0f7a4 (v_X12_standingOn 52 (-9) μ12))) μ12) (by simp))
    refine lt_ (P := fun z => Fs [50, 52, 59, 60, 61, 62, 1000, 1001, 1023] μ z) ((e_X12_adds (2000 + (v_X12_moment 52 μ15)) μ15)) (fun μ18 : Mm => μ18) (fun μ18 eμ18 => ?_)
    have fμ18 : Fs [50, 52, 59, 60, 61, 62, 1000, 1001, 1023] μ μ18 := by
      rw [eμ18]
      exact (Fs.call fμ15 (fs_X12_adds (2000 + (v_X12_moment 52 μ15)) μ15) (by simp))
    exact fμ18
set_option maxRecDepth 20000 in
set_option maxHeartbeats 400000 in
theorem fs_X12_readsAct  (μ : Mm) : Fs [63, 64, 65, 1010, 1013, 1029] μ (e_X12_readsAct  μ) := by
  unfold e_X12_readsAct
  refine lt_ (P := fun z => Fs [63, 64, 65, 1010, 1013, 1029] μ z) ((e_X12_takesOf 6 μ)) (fun μ2 : Mm => (let μ4 : Mm := (upI μ2 63 (Int32.toNatClampNeg (μ.1 49 29)) (v_X12_takesOf 6 μ)); (let μ5 : Mm := (upI μ4 49 29 ((μ4.1 49 29) + 1)); (let μ10 : Mm := (if 0 ≤ (μ5.1 63 (Int32.toNatClampNeg (μ.1 49 29))) then ((e_X12_number 1 μ5)) else μ5 : Mm); (let μ12 : Mm := (upI μ10 64 (Int32.toNatClampNeg (μ.1 49 29)) (if 0 ≤ (μ5.1 63 (Int32.toNatClampNeg (μ.1 49 29))) then (v_X12_number 1 μ5) else (-1) : Int32)); (if (μ12.1 64 (Int32.toNatClampNeg (μ.1 49 29))) < 0 then μ12 else (if 2 ≤ (μ12.1 63 (Int32.toNatClampNeg (μ.1 49 29))) then (if (μ12.1 63 (Int32.toNatClampNeg (μ.1 49 29))) = 2 then (let μ23 : Mm := (e_X12_number 1 μ12); (let μ25 : Mm := (upI μ23 65 (Int32.toNatClampNeg (μ.1 49 29)) (v_X12_number 1 μ12)); μ25)) else (let μ33 : Mm := (e_X12_readsSigned (if (μ12.1 63 (Int32.toNatClampNeg (μ.1 49 29))) = 3 then 2 else 1 : Nat) μ12); (let μ35 : Mm := (upI μ33 65 (Int32.toNatClampNeg (μ.1 49 29)) (μ33.1 49 13)); μ35))) else μ12))))))) (fun μ2 eμ2 => ?_)
  have fμ2 : Fs [63, 64, 65, 1010, 1013, 1029] μ μ2 := by
    rw [eμ2]
    exact (Fs.call Fs.rfl (fs_X12_takesOf 6 μ) (by simp))
  refine lt_ (P := fun z => Fs [63, 64, 65, 1010, 1013, 1029] μ z) ((upI μ2 63 (Int32.toNatClampNeg (μ.1 49 29)) (v_X12_takesOf 6 μ))) (fun μ4 : Mm => (let μ5 : Mm := (upI μ4 49 29 ((μ4.1 49 29) + 1)); (let μ10 : Mm := (if 0 ≤ (μ5.1 63 (Int32.toNatClampNeg (μ.1 49 29))) then ((e_X12_number 1 μ5)) else μ5 : Mm); (let μ12 : Mm := (upI μ10 64 (Int32.toNatClampNeg (μ.1 49 29)) (if 0 ≤ (μ5.1 63 (Int32.toNatClampNeg (μ.1 49 29))) then (v_X12_number 1 μ5) else (-1) : Int32)); (if (μ12.1 64 (Int32.toNatClampNeg (μ.1 49 29))) < 0 then μ12 else (if 2 ≤ (μ12.1 63 (Int32.toNatClampNeg (μ.1 49 29))) then (if (μ12.1 63 (Int32.toNatClampNeg (μ.1 49 29))) = 2 then (let μ23 : Mm := (e_X12_number 1 μ12); (let μ25 : Mm := (upI μ23 65 (Int32.toNatClampNeg (μ.1 49 29)) (v_X12_number 1 μ12)); μ25)) else (let μ33 : Mm := (e_X12_readsSigned (if (μ12.1 63 (Int32.toNatClampNeg (μ.1 49 29))) = 3 then 2 else 1 : Nat) μ12); (let μ35 : Mm := (upI μ33 65 (Int32.toNatClampNeg (μ.1 49 29)) (μ33.1 49 13)); μ35))) else μ12)))))) (fun μ4 eμ4 => ?_)
  have fμ4 : Fs [63, 64, 65, 1010, 1013, 1029] μ μ4 := by
    rw [eμ4]
    exact (Fs.up fμ2 (by simp))
  refine lt_ (P := fun z => Fs [63, 64, 65, 1010, 1013, 1029] μ z) ((upI μ4 49 29 ((μ4.1 49 29) + 1))) (fun μ5 : Mm => (let μ10 : Mm := (if 0 ≤ (μ5.1 63 (Int32.toNatClampNeg (μ.1 49 29))) then ((e_X12_number 1 μ5)) else μ5 : Mm); (let μ12 : Mm := (upI μ10 64 (Int32.toNatClampNeg (μ.1 49 29)) (if 0 ≤ (μ5.1 63 (Int32.toNatClampNeg (μ.1 49 29))) then (v_X12_number 1 μ5) else (-1) : Int32)); (if (μ12.1 64 (Int32.toNatClampNeg (μ.1 49 29))) < 0 then μ12 else (if 2 ≤ (μ12.1 63 (Int32.toNatClampNeg (μ.1 49 29))) then (if (μ12.1 63 (Int32.toNatClampNeg (μ.1 49 29))) = 2 then (let μ23 : Mm := (e_X12_number 1 μ12); (let μ25 : Mm := (upI μ23 65 (Int32.toNatClampNeg (μ.1 49 29)) (v_X12_number 1 μ12)); μ25)) else (let μ33 : Mm := (e_X12_readsSigned (if (μ12.1 63 (Int32.toNatClampNeg (μ.1 49 29))) = 3 then 2 else 1 : Nat) μ12); (let μ35 : Mm := (upI μ33 65 (Int32.toNatClampNeg (μ.1 49 29)) (μ33.1 49 13)); μ35))) else μ12))))) (fun μ5 eμ5 => ?_)
  have fμ5 : Fs [63, 64, 65, 1010, 1013, 1029] μ μ5 := by
    rw [eμ5]
    exact (Fs.upF fμ4 (by simp))
  refine lt_ (P := fun z => Fs [63, 64, 65, 1010, 1013, 1029] μ z) ((if 0 ≤ (μ5.1 63 (Int32.toNatClampNeg (μ.1 49 29))) then ((e_X12_number 1 μ5)) else μ5 : Mm)) (fun μ10 : Mm => (let μ12 : Mm := (upI μ10 64 (Int32.toNatClampNeg (μ.1 49 29)) (if 0 ≤ (μ5.1 63 (Int32.toNatClampNeg (μ.1 49 29))) then (v_X12_number 1 μ5) else (-1) : Int32)); (if (μ12.1 64 (Int32.toNatClampNeg (μ.1 49 29))) < 0 then μ12 else (if 2 ≤ (μ12.1 63 (Int32.toNatClampNeg (μ.1 49 29))) then (if (μ12.1 63 (Int32.toNatClampNeg (μ.1 49 29))) = 2 then (let μ23 : Mm := (e_X12_number 1 μ12); (let μ25 : Mm := (upI μ23 65 (Int32.toNatClampNeg (μ.1 49 29)) (v_X12_number 1 μ12)); μ25)) else (let μ33 : Mm := (e_X12_readsSigned (if (μ12.1 63 (Int32.toNatClampNeg (μ.1 49 29))) = 3 then 2 else 1 : Nat) μ12); (let μ35 : Mm := (upI μ33 65 (Int32.toNatClampNeg (μ.1 49 29)) (μ33.1 49 13)); μ35))) else μ12)))) (fun μ10 eμ10 => ?_)
  have fμ10 : Fs [63, 64, 65, 1010, 1013, 1029] μ μ10 := by
    rw [eμ10]
    exact (Fs.ite (Fs.call fμ5 (fs_X12_number 1 μ5) (by simp)) fμ5)
  refine lt_ (P := fun z => Fs [63, 64, 65, 1010, 1013, 1029] μ z) ((upI μ10 64 (Int32.toNatClampNeg (μ.1 49 29)) (if 0 ≤ (μ5.1 63 (Int32.toNatClampNeg (μ.1 49 29))) then (v_X12_number 1 μ5) else (-1) : Int32))) (fun μ12 : Mm => (if (μ12.1 64 (Int32.toNatClampNeg (μ.1 49 29))) < 0 then μ12 else (if 2 ≤ (μ12.1 63 (Int32.toNatClampNeg (μ.1 49 29))) then (if (μ12.1 63 (Int32.toNatClampNeg (μ.1 49 29))) = 2 then (let μ23 : Mm := (e_X12_number 1 μ12); (let μ25 : Mm := (upI μ23 65 (Int32.toNatClampNeg (μ.1 49 29)) (v_X12_number 1 μ12)); μ25)) else (let μ33 : Mm := (e_X12_readsSigned (if (μ12.1 63 (Int32.toNatClampNeg (μ.1 49 29))) = 3 then 2 else 1 : Nat) μ12); (let μ35 : Mm := (upI μ33 65 (Int32.toNatClampNeg (μ.1 49 29)) (μ33.1 49 13)); μ35))) else μ12))) (fun μ12 eμ12 => ?_)
  have fμ12 : Fs [63, 64, 65, 1010, 1013, 1029] μ μ12 := by
    rw [eμ12]
    exact (Fs.up fμ10 (by simp))
  refine Fs.ite ?_ ?_
  · exact fμ12
  · refine Fs.ite ?_ ?_
    · refine Fs.ite ?_ ?_
      · refine lt_ (P := fun z => Fs [63, 64, 65, 1010, 1013, 1029] μ z) ((e_X12_number 1 μ12)) (fun μ23 : Mm => (let μ25 : Mm := (upI μ23 65 (Int32.toNatClampNeg (μ.1 49 29)) (v_X12_number 1 μ12)); μ25)) (fun μ23 eμ23 => ?_)
        have fμ23 : Fs [63, 64, 65, 1010, 1013, 1029] μ μ23 := by
          rw [eμ23]
          exact (Fs.call fμ12 (fs_X12_number 1 μ12) (by simp))
        refine lt_ (P := fun z => Fs [63, 64, 65, 1010, 1013, 1029] μ z) ((upI μ23 65 (Int32.toNatClampNeg (μ.1 49 29)) (v_X12_number 1 μ12))) (fun μ25 : Mm => μ25) (fun μ25 eμ25 => ?_)
        have fμ25 : Fs [63, 64, 65, 1010, 1013, 1029] μ μ25 := by
          rw [eμ25]
          exact (Fs.up fμ23 (by simp))
        exact fμ25
      · refine lt_ (P := fun z => Fs [63, 64, 65, 1010, 1013, 1029] μ z) ((e_X12_readsSigned (if (μ12.1 63 (Int32.toNatClampNeg (μ.1 49 29))) = 3 then 2 else 1 : Nat) μ12)) (fun μ33 : Mm => (let μ35 : Mm := (upI μ33 65 (Int32.toNatClampNeg (μ.1 49 29)) (μ33.1 49 13)); μ35)) (fun μ33 eμ33 => ?_)
        have fμ33 : Fs [63, 64, 65, 1010, 1013, 1029] μ μ33 := by
          rw [eμ33]
          exact (Fs.call fμ12 (fs_X12_readsSigned (if (μ12.1 63 (Int32.toNatClampNeg (μ.1 49 29))) = 3 then 2 else 1 : Nat) μ12) (by simp))
        refine lt_ (P := fun z => Fs [63, 64, 65, 1010, 1013, 1029] μ z) ((upI μ33 65 (Int32.toNatClampNeg (μ.1 49 29)) (μ33.1 49 13))) (fun μ35 : Mm => μ35) (fun μ35 eμ35 => ?_)
        have fμ35 : Fs [63, 64, 65, 1010, 1013, 1029] μ μ35 := by
          rw [eμ35]
          exact (Fs.up fμ33 (by simp))
        exact fμ35
    · exact fμ12
set_option maxRecDepth 20000 in
set_option maxHeartbeats 400000 in
theorem fs_X12_readsOne  (μ : Mm) : Fs [55, 56, 1010, 1013, 1016] μ (e_X12_readsOne  μ) := by
  unfold e_X12_readsOne
  refine Fs.ite ?_ ?_
  · exact Fs.rfl
  · refine lt_ (P := fun z => Fs [55, 56, 1010, 1013, 1016] μ z) ((e_X12_digitIn 1 9 μ)) (fun μ3 : Mm => (let μ5 : Mm := (upI μ3 55 (Int32.toNatClampNeg (μ.1 49 16)) (v_X12_digitIn 1 9 μ)); (if (μ5.1 55 (Int32.toNatClampNeg (μ5.1 49 16))) < 0 then μ5 else (let μ9 : Mm := (e_X12_readsSigned 1 μ5); (if (v_X12_readsSigned 1 μ5) = 0 then μ9 else (let μ12 : Mm := (upI μ9 56 (Int32.toNatClampNeg (μ9.1 49 16)) (μ9.1 49 13)); (let μ13 : Mm := (upI μ12 49 16 ((μ12.1 49 16) + 1)); μ13))))))) (fun μ3 eμ3 => ?_)
    have fμ3 : Fs [55, 56, 1010, 1013, 1016] μ μ3 := by
      rw [eμ3]
      exact (Fs.call Fs.rfl (fs_X12_digitIn 1 9 μ) (by simp))
    refine lt_ (P := fun z => Fs [55, 56, 1010, 1013, 1016] μ z) ((upI μ3 55 (Int32.toNatClampNeg (μ.1 49 16)) (v_X12_digitIn 1 9 μ))) (fun μ5 : Mm => (if (μ5.1 55 (Int32.toNatClampNeg (μ5.1 49 16))) < 0 then μ5 else (let μ9 : Mm := (e_X12_readsSigned 1 μ5); (if (v_X12_readsSigned 1 μ5) = 0 then μ9 else (let μ12 : Mm := (upI μ9 56 (Int32.toNatClampNeg (μ9.1 49 16)) (μ9.1 49 13)); (let μ13 : Mm := (upI μ12 49 16 ((μ12.1 49 16) + 1)); μ13)))))) (fun μ5 eμ5 => ?_)
    have fμ5 : Fs [55, 56, 1010, 1013, 1016] μ μ5 := by
      rw [eμ5]
      exact (Fs.up fμ3 (by simp))
    refine Fs.ite ?_ ?_
    · exact fμ5
    · refine lt_ (P := fun z => Fs [55, 56, 1010, 1013, 1016] μ z) ((e_X12_readsSigned 1 μ5)) (fun μ9 : Mm => (if (v_X12_readsSigned 1 μ5) = 0 then μ9 else (let μ12 : Mm := (upI μ9 56 (Int32.toNatClampNeg (μ9.1 49 16)) (μ9.1 49 13)); (let μ13 : Mm := (upI μ12 49 16 ((μ12.1 49 16) + 1)); μ13)))) (fun μ9 eμ9 => ?_)
      have fμ9 : Fs [55, 56, 1010, 1013, 1016] μ μ9 := by
        rw [eμ9]
        exact (Fs.call fμ5 (fs_X12_readsSigned 1 μ5) (by simp))
      refine Fs.ite ?_ ?_
      · exact fμ9
      · refine lt_ (P := fun z => Fs [55, 56, 1010, 1013, 1016] μ z) ((upI μ9 56 (Int32.toNatClampNeg (μ9.1 49 16)) (μ9.1 49 13))) (fun μ12 : Mm => (let μ13 : Mm := (upI μ12 49 16 ((μ12.1 49 16) + 1)); μ13)) (fun μ12 eμ12 => ?_)
        have fμ12 : Fs [55, 56, 1010, 1013, 1016] μ μ12 := by
          rw [eμ12]
          exact (Fs.up fμ9 (by simp))
        refine lt_ (P := fun z => Fs [55, 56, 1010, 1013, 1016] μ z) ((upI μ12 49 16 ((μ12.1 49 16) + 1))) (fun μ13 : Mm => μ13) (fun μ13 eμ13 => ?_)
        have fμ13 : Fs [55, 56, 1010, 1013, 1016] μ μ13 := by
          rw [eμ13]
          exact (Fs.upF fμ12 (by simp))
        exact fμ13
set_option maxRecDepth 20000 in
set_option maxHeartbeats 400000 in
theorem fsw_X12_wishesOf_4  (s : Int32 × Int32 × Int32 × Mm) : Fs [53, 59, 60, 62, 70] (s.2.2.2) ((whl (fun s : Int32 × Int32 × Int32 × Mm => bd_X12_wishesOf_4  s.1 s.2.1 s.2.2.1 s.2.2.2) (fun s : Int32 × Int32 × Int32 × Mm => (0, s.2.2.2)) FU s).2) := by
  have key : ∀ s : Int32 × Int32 × Int32 × Mm, FsS [53, 59, 60, 62, 70] (s.2.2.2) (fun s : Int32 × Int32 × Int32 × Mm => s.2.2.2) (fun r : Int32 × Mm => r.2) ((fun s : Int32 × Int32 × Int32 × Mm => bd_X12_wishesOf_4  s.1 s.2.1 s.2.2.1 s.2.2.2) s) := by
    rintro ⟨x1, x2, x3, μ⟩
    show FsS [53, 59, 60, 62, 70] μ (fun s : Int32 × Int32 × Int32 × Mm => s.2.2.2) (fun r : Int32 × Mm => r.2) (bd_X12_wishesOf_4  x1 x2 x3 μ)
    unfold bd_X12_wishesOf_4
    refine FsS.ite ?_ ?_
    · exact FsS.inr Fs.rfl
    · refine lt_ (P := fun z => FsS [53, 59, 60, 62, 70] μ (fun s : Int32 × Int32 × Int32 × Mm => s.2.2.2) (fun r : Int32 × Mm => r.2) z) ((e_X12_isAsSeen x1 x3 μ)) (fun μ3 : Mm => .inl (x1, (x2 ||| (if (v_X12_isAsSeen x1 x3 μ) = 0 then 0 else (1 <<< (x3 &&& 31)) : Int32)), (x3 + 1), μ3)) (fun μ3 eμ3 => ?_)
      have fμ3 : Fs [53, 59, 60, 62, 70] μ μ3 := by
        rw [eμ3]
        exact (Fs.call Fs.rfl (fs_X12_isAsSeen x1 x3 μ) (by simp))
      exact FsS.inl fμ3
  exact Fs_whlK (S := [53, 59, 60, 62, 70]) (f := (fun s : Int32 × Int32 × Int32 × Mm => bd_X12_wishesOf_4  s.1 s.2.1 s.2.2.1 s.2.2.2)) (dd := (fun s : Int32 × Int32 × Int32 × Mm => (0, s.2.2.2))) (fun s : Int32 × Int32 × Int32 × Mm => s.2.2.2) (fun r : Int32 × Mm => r.2) (fun _ => rfl) key FU s
set_option maxRecDepth 20000 in
set_option maxHeartbeats 400000 in
theorem fs_X12_wishesOf (p0 : Int32) (μ : Mm) : Fs [53, 59, 60, 62, 70] μ (e_X12_wishesOf p0 μ) := by
  unfold e_X12_wishesOf
  refine lt_ (P := fun z => Fs [53, 59, 60, 62, 70] μ z) (whl (fun s : Int32 × Int32 × Int32 × Mm => bd_X12_wishesOf_4  s.1 s.2.1 s.2.2.1 s.2.2.2) (fun s : Int32 × Int32 × Int32 × Mm => (0, s.2.2.2)) FU (p0, 0, 0, μ)) (fun r2 : Int32 × Mm => (r2.2)) (fun r2 er2 => ?_)
  have fr2 : Fs [53, 59, 60, 62, 70] μ (r2.2) := by
    rw [er2]
    exact Fs.call Fs.rfl (fsw_X12_wishesOf_4  _) (by simp)
  exact fr2
set_option maxRecDepth 20000 in
set_option maxHeartbeats 400000 in
theorem fs_X12_cares (p0 : Int32) (μ : Mm) : Fs [50, 53, 59, 60, 62, 70, 1000, 1001] μ (e_X12_cares p0 μ) := by
  unfold e_X12_cares
  refine lt_ (P := fun z => Fs [50, 53, 59, 60, 62, 70, 1000, 1001] μ z) ((upI μ 49 0 0)) (fun μ1 : Mm => (if (v_X12_isOne p0 μ1) = 0 then μ1 else (let μ4 : Mm := (e_X12_wishesOf p0 μ1); (let μ5 : Mm := (upI μ4 49 1 0); (let μ7 : Mm := (e_X12_enters (Int32.toInt64 (v_J6_bitCount_0f7a4 (v_X12_wishesOf p0 μ1))) μ5); (let μ13 : Mm := (if (v_X12_wishesOf p0 μ1) = 0 then μ7 else ((e_X12_enters (Int32.toInt64 (122 - (v_J6_numberOfLeadingZeros_0f7a4 (v_X12_wishesOf p0 μ1)))) ((e_X12_enters (Int32.toInt64 (91 + (v_J6_numberOfTrailingZeros_0f7a4 (v_X12_wishesOf p0 μ1)))) μ7)))) : Mm); μ13)))))) (fun μ1 eμ1 => ?_)
  have fμ1 : Fs [50, 53, 59, 60, 62, 70, 1000, 1001] μ μ1 := by
    rw [eμ1]
    exact (Fs.upF Fs.rfl (by simp))
  refine Fs.ite ?_ ?_
  · exact fμ1
  · refine lt_ (P := fun z => Fs [50, 53, 59, 60, 62, 70, 1000, 1001] μ z) ((e_X12_wishesOf p0 μ1)) (fun μ4 : Mm => (let μ5 : Mm := (upI μ4 49 1 0); (let μ7 : Mm := (e_X12_enters (Int32.toInt64 (v_J6_bitCount_0f7a4 (v_X12_wishesOf p0 μ1))) μ5); (let μ13 : Mm := (if (v_X12_wishesOf p0 μ1) = 0 then μ7 else ((e_X12_enters (Int32.toInt64 (122 - (v_J6_numberOfLeadingZeros_0f7a4 (v_X12_wishesOf p0 μ1)))) ((e_X12_enters (Int32.toInt64 (91 + (v_J6_numberOfTrailingZeros_0f7a4 (v_X12_wishesOf p0 μ1)))) μ7)))) : Mm); μ13)))) (fun μ4 eμ4 => ?_)
    have fμ4 : Fs [50, 53, 59, 60, 62, 70, 1000, 1001] μ μ4 := by
      rw [eμ4]
      exact (Fs.call fμ1 (fs_X12_wishesOf p0 μ1) (by simp))
    refine lt_ (P := fun z => Fs [50, 53, 59, 60, 62, 70, 1000, 1001] μ z) ((upI μ4 49 1 0)) (fun μ5 : Mm => (let μ7 : Mm := (e_X12_enters (Int32.toInt64 (v_J6_bitCount_0f7a4 (v_X12_wishesOf p0 μ1))) μ5); (let μ13 : Mm := (if (v_X12_wishesOf p0 μ1) = 0 then μ7 else ((e_X12_enters (Int32.toInt64 (122 - (v_J6_numberOfLeadingZeros_0f7a4 (v_X12_wishesOf p0 μ1)))) ((e_X12_enters (Int32.toInt64 (91 + (v_J6_numberOfTrailingZeros_0f7a4 (v_X12_wishesOf p0 μ1)))) μ7)))) : Mm); μ13))) (fun μ5 eμ5 => ?_)
    have fμ5 : Fs [50, 53, 59, 60, 62, 70, 1000, 1001] μ μ5 := by
      rw [eμ5]
      exact (Fs.upF fμ4 (by simp))
    refine lt_ (P := fun z => Fs [50, 53, 59, 60, 62, 70, 1000, 1001] μ z) ((e_X12_enters (Int32.toInt64 (v_J6_bitCount_0f7a4 (v_X12_wishesOf p0 μ1))) μ5)) (fun μ7 : Mm => (let μ13 : Mm := (if (v_X12_wishesOf p0 μ1) = 0 then μ7 else ((e_X12_enters (Int32.toInt64 (122 - (v_J6_numberOfLeadingZeros_0f7a4 (v_X12_wishesOf p0 μ1)))) ((e_X12_enters (Int32.toInt64 (91 + (v_J6_numberOfTrailingZeros_0f7a4 (v_X12_wishesOf p0 μ1)))) μ7)))) : Mm); μ13)) (fun μ7 eμ7 => ?_)
    have fμ7 : Fs [50, 53, 59, 60, 62, 70, 1000, 1001] μ μ7 := by
      rw [eμ7]
      exact (Fs.call fμ5 (fs_X12_enters (Int32.toInt64 (v_J6_bitCount_0f7a4 (v_X12_wishesOf p0 μ1))) μ5) (by simp))
    refine lt_ (P := fun z => Fs [50, 53, 59, 60, 62, 70, 1000, 1001] μ z) ((if (v_X12_wishesOf p0 μ1) = 0 then μ7 else ((e_X12_enters (Int32.toInt64 (122 - (v_J6_numberOfLeadingZeros_0f7a4 (v_X12_wishesOf p0 μ1)))) ((e_X12_enters (Int32.toInt64 (91 + (v_J6_numberOfTrailingZeros_0f7a4 (v_X12_wishesOf p0 μ1)))) μ7)))) : Mm)) (fun μ13 : Mm => μ13) (fun μ13 eμ13 => ?_)
    have fμ13 : Fs [50, 53, 59, 60, 62, 70, 1000, 1001] μ μ13 := by
      rw [eμ13]
      exact (Fs.ite fμ7 (Fs.call (Fs.call fμ7 (fs_X12_enters (Int32.toInt64 (91 + (v_J6_numberOfTrailingZeros_0f7a4 (v_X12_wishesOf p0 μ1)))) μ7) (by simp)) (fs_X12_enters (Int32.toInt64 (122 - (v_J6_numberOfLeadingZeros_0f7a4 (v_X12_wishesOf p0 μ1)))) ((e_X12_enters (Int32.toInt64 (91 + (v_J6_numberOfTrailingZeros_0f7a4 (v_X12_wishesOf p0 μ1)))) μ7))) (by simp)))
    exact fμ13
set_option maxRecDepth 20000 in
set_option maxHeartbeats 400000 in
theorem fs_X12_decides  (μ : Mm) : Fs [50, 53, 59, 60, 62, 1000, 1001] μ (e_X12_decides  μ) := by
  unfold e_X12_decides
  refine lt_ (P := fun z => Fs [50, 53, 59, 60, 62, 1000, 1001] μ z) ((upI μ 49 0 0)) (fun μ1 : Mm => (let μ3 : Mm := (e_X12_goesToNoon  μ1); (let μ4 : Mm := (upI μ3 49 1 0); (let μ7 : Mm := (e_X12_enters (Int32.toInt64 (2000 + (v_X12_moment 53 μ4))) μ4); (let μ9 : Mm := (e_X12_entersPlaces  μ7); μ9))))) (fun μ1 eμ1 => ?_)
  have fμ1 : Fs [50, 53, 59, 60, 62, 1000, 1001] μ μ1 := by
    rw [eμ1]
    exact (Fs.upF Fs.rfl (by simp))
  refine lt_ (P := fun z => Fs [50, 53, 59, 60, 62, 1000, 1001] μ z) ((e_X12_goesToNoon  μ1)) (fun μ3 : Mm => (let μ4 : Mm := (upI μ3 49 1 0); (let μ7 : Mm := (e_X12_enters (Int32.toInt64 (2000 + (v_X12_moment 53 μ4))) μ4); (let μ9 : Mm := (e_X12_entersPlaces  μ7); μ9)))) (fun μ3 eμ3 => ?_)
  have fμ3 : Fs [50, 53, 59, 60, 62, 1000, 1001] μ μ3 := by
    rw [eμ3]
    exact (Fs.call fμ1 (fs_X12_goesToNoon μ1) (by simp))
  refine lt_ (P := fun z => Fs [50, 53, 59, 60, 62, 1000, 1001] μ z) ((upI μ3 49 1 0)) (fun μ4 : Mm => (let μ7 : Mm := (e_X12_enters (Int32.toInt64 (2000 + (v_X12_moment 53 μ4))) μ4); (let μ9 : Mm := (e_X12_entersPlaces  μ7); μ9))) (fun μ4 eμ4 => ?_)
  have fμ4 : Fs [50, 53, 59, 60, 62, 1000, 1001] μ μ4 := by
    rw [eμ4]
    exact (Fs.upF fμ3 (by simp))
  refine lt_ (P := fun z => Fs [50, 53, 59, 60, 62, 1000, 1001] μ z) ((e_X12_enters (Int32.toInt64 (2000 + (v_X12_moment 53 μ4))) μ4)) (fun μ7 : Mm => (let μ9 : Mm := (e_X12_entersPlaces  μ7); μ9)) (fun μ7 eμ7 => ?_)
  have fμ7 : Fs [50, 53, 59, 60, 62, 1000, 1001] μ μ7 := by
    rw [eμ7]
    exact (Fs.call fμ4 (fs_X12_enters (Int32.toInt64 (2000 + (v_X12_moment 53 μ4))) μ4) (by simp))
  refine lt_ (P := fun z => Fs [50, 53, 59, 60, 62, 1000, 1001] μ z) ((e_X12_entersPlaces  μ7)) (fun μ9 : Mm => μ9) (fun μ9 eμ9 => ?_)
  have fμ9 : Fs [50, 53, 59, 60, 62, 1000, 1001] μ μ9 := by
    rw [eμ9]
    exact (Fs.call fμ7 (fs_X12_entersPlaces μ7) (by simp))
  exact fμ9
set_option maxRecDepth 20000 in
set_option maxHeartbeats 400000 in
theorem fs_X12_looks (p0 : Int32) (μ : Mm) : Fs [50, 53, 59, 60, 62, 70, 1000, 1001] μ (e_X12_looks p0 μ) := by
  unfold e_X12_looks
  refine lt_ (P := fun z => Fs [50, 53, 59, 60, 62, 70, 1000, 1001] μ z) ((upI μ 49 0 0)) (fun μ1 : Mm => (if (v_X12_isOne p0 μ1) = 0 then μ1 else (let μ4 : Mm := (e_X12_wishesOf p0 μ1); (if (v_X12_wishesOf p0 μ1) = 0 then μ4 else (let r7 : Int32 × Int32 := whl (fun s : Int32 × Int32 × Int32 × Int32 => bd_X12_looks_38  μ4 s.1 s.2.1 s.2.2.1 s.2.2.2) (fun _ : Int32 × Int32 × Int32 × Int32 => (0, 0)) FU ((v_X12_wishesOf p0 μ1), (-1), 1000000, 0); (let μ8 : Mm := (upI μ4 49 1 0); (let μ10 : Mm := (e_X12_enters (Int32.toInt64 (r7.2)) μ8); μ10))))))) (fun μ1 eμ1 => ?_)
  have fμ1 : Fs [50, 53, 59, 60, 62, 70, 1000, 1001] μ μ1 := by
    rw [eμ1]
    exact (Fs.upF Fs.rfl (by simp))
  refine Fs.ite ?_ ?_
  · exact fμ1
  · refine lt_ (P := fun z => Fs [50, 53, 59, 60, 62, 70, 1000, 1001] μ z) ((e_X12_wishesOf p0 μ1)) (fun μ4 : Mm => (if (v_X12_wishesOf p0 μ1) = 0 then μ4 else (let r7 : Int32 × Int32 := whl (fun s : Int32 × Int32 × Int32 × Int32 => bd_X12_looks_38  μ4 s.1 s.2.1 s.2.2.1 s.2.2.2) (fun _ : Int32 × Int32 × Int32 × Int32 => (0, 0)) FU ((v_X12_wishesOf p0 μ1), (-1), 1000000, 0); (let μ8 : Mm := (upI μ4 49 1 0); (let μ10 : Mm := (e_X12_enters (Int32.toInt64 (r7.2)) μ8); μ10))))) (fun μ4 eμ4 => ?_)
    have fμ4 : Fs [50, 53, 59, 60, 62, 70, 1000, 1001] μ μ4 := by
      rw [eμ4]
      exact (Fs.call fμ1 (fs_X12_wishesOf p0 μ1) (by simp))
    refine Fs.ite ?_ ?_
    · exact fμ4
    · refine lt_ (P := fun z => Fs [50, 53, 59, 60, 62, 70, 1000, 1001] μ z) (whl (fun s : Int32 × Int32 × Int32 × Int32 => bd_X12_looks_38  μ4 s.1 s.2.1 s.2.2.1 s.2.2.2) (fun _ : Int32 × Int32 × Int32 × Int32 => (0, 0)) FU ((v_X12_wishesOf p0 μ1), (-1), 1000000, 0)) (fun r7 : Int32 × Int32 => (let μ8 : Mm := (upI μ4 49 1 0); (let μ10 : Mm := (e_X12_enters (Int32.toInt64 (r7.2)) μ8); μ10))) (fun r7 er7 => ?_)
      refine lt_ (P := fun z => Fs [50, 53, 59, 60, 62, 70, 1000, 1001] μ z) ((upI μ4 49 1 0)) (fun μ8 : Mm => (let μ10 : Mm := (e_X12_enters (Int32.toInt64 (r7.2)) μ8); μ10)) (fun μ8 eμ8 => ?_)
      have fμ8 : Fs [50, 53, 59, 60, 62, 70, 1000, 1001] μ μ8 := by
        rw [eμ8]
        exact (Fs.upF fμ4 (by simp))
      refine lt_ (P := fun z => Fs [50, 53, 59, 60, 62, 70, 1000, 1001] μ z) ((e_X12_enters (Int32.toInt64 (r7.2)) μ8)) (fun μ10 : Mm => μ10) (fun μ10 eμ10 => ?_)
      have fμ10 : Fs [50, 53, 59, 60, 62, 70, 1000, 1001] μ μ10 := by
        rw [eμ10]
        exact (Fs.call fμ8 (fs_X12_enters (Int32.toInt64 (r7.2)) μ8) (by simp))
      exact fμ10
set_option maxRecDepth 20000 in
set_option maxHeartbeats 400000 in
theorem fsw_X12_morning_64  (s : Int32 × Mm) : Fs [52, 59, 60, 62] (s.2) ((whl (fun s : Int32 × Mm => bd_X12_morning_64  s.1 s.2) (fun s : Int32 × Mm => (0, s.2)) FU s).2) := by
  have key : ∀ s : Int32 × Mm, FsS [52, 59, 60, 62] (s.2) (fun s : Int32 × Mm => s.2) (fun r : Int32 × Mm => r.2) ((fun s : Int32 × Mm => bd_X12_morning_64  s.1 s.2) s) := by
    rintro ⟨x4, μ⟩
    show FsS [52, 59, 60, 62] μ (fun s : Int32 × Mm => s.2) (fun r : Int32 × Mm => r.2) (bd_X12_morning_64  x4 μ)
    unfold bd_X12_morning_64
    refine FsS.ite ?_ ?_
    · exact FsS.inr Fs.rfl
    · refine lt_ (P := fun z => FsS [52, 59, 60, 62] μ (fun s : Int32 × Mm => s.2) (fun r : Int32 × Mm => r.2) z) ((e_X12_does x4 μ)) (fun μ3 : Mm => (if (v_X12_does x4 μ) = 0 then .inr (x4, μ3) else .inl ((x4 + 1), μ3))) (fun μ3 eμ3 => ?_)
      have fμ3 : Fs [52, 59, 60, 62] μ μ3 := by
        rw [eμ3]
        exact (Fs.call Fs.rfl (fs_X12_does x4 μ) (by simp))
      refine FsS.ite ?_ ?_
      · exact FsS.inr fμ3
      · exact FsS.inl fμ3
  exact Fs_whlK (S := [52, 59, 60, 62]) (f := (fun s : Int32 × Mm => bd_X12_morning_64  s.1 s.2)) (dd := (fun s : Int32 × Mm => (0, s.2))) (fun s : Int32 × Mm => s.2) (fun r : Int32 × Mm => r.2) (fun _ => rfl) key FU s
set_option maxRecDepth 20000 in
set_option maxHeartbeats 400000 in
theorem fsw_X12_morning_19  (s : Int32 × Int32 × Mm) : Fs [63, 64, 65, 1010, 1013, 1029] (s.2.2) ((whl (fun s : Int32 × Int32 × Mm => bd_X12_morning_19  s.1 s.2.1 s.2.2) (fun s : Int32 × Int32 × Mm => (0, 0, s.2.2)) FU s).2.2) := by
  have key : ∀ s : Int32 × Int32 × Mm, FsS [63, 64, 65, 1010, 1013, 1029] (s.2.2) (fun s : Int32 × Int32 × Mm => s.2.2) (fun r : Int32 × Int32 × Mm => r.2.2) ((fun s : Int32 × Int32 × Mm => bd_X12_morning_19  s.1 s.2.1 s.2.2) s) := by
    rintro ⟨x1, x2, μ⟩
    show FsS [63, 64, 65, 1010, 1013, 1029] μ (fun s : Int32 × Int32 × Mm => s.2.2) (fun r : Int32 × Int32 × Mm => r.2.2) (bd_X12_morning_19  x1 x2 μ)
    unfold bd_X12_morning_19
    refine FsS.ite ?_ ?_
    · exact FsS.inr Fs.rfl
    · refine FsS.ite ?_ ?_
      · exact FsS.inr Fs.rfl
      · refine lt_ (P := fun z => FsS [63, 64, 65, 1010, 1013, 1029] μ (fun s : Int32 × Int32 × Mm => s.2.2) (fun r : Int32 × Int32 × Mm => r.2.2) z) ((e_X12_readsAct  μ)) (fun μ4 : Mm => .inl (x1, (v_X12_readsAct  μ), μ4)) (fun μ4 eμ4 => ?_)
        have fμ4 : Fs [63, 64, 65, 1010, 1013, 1029] μ μ4 := by
          rw [eμ4]
          exact (Fs.call Fs.rfl (fs_X12_readsAct μ) (by simp))
        exact FsS.inl fμ4
  exact Fs_whlK (S := [63, 64, 65, 1010, 1013, 1029]) (f := (fun s : Int32 × Int32 × Mm => bd_X12_morning_19  s.1 s.2.1 s.2.2)) (dd := (fun s : Int32 × Int32 × Mm => (0, 0, s.2.2))) (fun s : Int32 × Int32 × Mm => s.2.2) (fun r : Int32 × Int32 × Mm => r.2.2) (fun _ => rfl) key FU s
set_option maxRecDepth 20000 in
set_option maxHeartbeats 400000 in
theorem fs_X12_morning  (μ : Mm) : Fs [50, 52, 59, 60, 61, 62, 63, 64, 65, 1000, 1001, 1009, 1010, 1011, 1012, 1013, 1023, 1029] μ (e_X12_morning  μ) := by
  unfold e_X12_morning
  refine lt_ (P := fun z => Fs [50, 52, 59, 60, 61, 62, 63, 64, 65, 1000, 1001, 1009, 1010, 1011, 1012, 1013, 1023, 1029] μ z) ((upI μ 49 0 0)) (fun μ1 : Mm => (let μ2 : Mm := (e_X12_begins 60 μ1); (let μ3 : Mm := (upI μ2 49 29 0); (let r5 : Int32 × Int32 × Mm := whl (fun s : Int32 × Int32 × Mm => bd_X12_morning_19  s.1 s.2.1 s.2.2) (fun s : Int32 × Int32 × Mm => (0, 0, s.2.2)) FU ((v_X12_begins 60 μ1), 1, μ3); (if 0 ≤ (v_X12_faultOf (r5.1) 60 (r5.2.1) (r5.2.2)) then (let μ8 : Mm := (e_X12_putsBy  (r5.2.2)); (let r10 : Int32 × Mm := whl (fun s : Int32 × Mm => bd_X12_morning_64  s.1 s.2) (fun s : Int32 × Mm => (0, s.2)) FU (0, μ8); (let μ11 : Mm := (upI (r10.2) 49 1 0); (let μ15 : Mm := (e_X12_enters (Int32.toInt64 (v_X12_flag (if (μ11.1 49 29) ≤ (r10.1) then 0 else 1 : Int32))) μ11); (let μ18 : Mm := (e_X12_enters (Int32.toInt64 (2000 + (v_X12_moment 52 μ15))) μ15); (let μ22 : Mm := (if (r10.1) ≤ 0 then μ18 else ((e_X12_adds (r10.1) μ18)) : Mm); μ22)))))) else (r5.2.2)))))) (fun μ1 eμ1 => ?_)
  have fμ1 : Fs [50, 52, 59, 60, 61, 62, 63, 64, 65, 1000, 1001, 1009, 1010, 1011, 1012, 1013, 1023, 1029] μ μ1 := by
    rw [eμ1]
    exact (Fs.upF Fs.rfl (by simp))
  refine lt_ (P := fun z => Fs [50, 52, 59, 60, 61, 62, 63, 64, 65, 1000, 1001, 1009, 1010, 1011, 1012, 1013, 1023, 1029] μ z) ((e_X12_begins 60 μ1)) (fun μ2 : Mm => (let μ3 : Mm := (upI μ2 49 29 0); (let r5 : Int32 × Int32 × Mm := whl (fun s : Int32 × Int32 × Mm => bd_X12_morning_19  s.1 s.2.1 s.2.2) (fun s : Int32 × Int32 × Mm => (0, 0, s.2.2)) FU ((v_X12_begins 60 μ1), 1, μ3); (if 0 ≤ (v_X12_faultOf (r5.1) 60 (r5.2.1) (r5.2.2)) then (let μ8 : Mm := (e_X12_putsBy  (r5.2.2)); (let r10 : Int32 × Mm := whl (fun s : Int32 × Mm => bd_X12_morning_64  s.1 s.2) (fun s : Int32 × Mm => (0, s.2)) FU (0, μ8); (let μ11 : Mm := (upI (r10.2) 49 1 0); (let μ15 : Mm := (e_X12_enters (Int32.toInt64 (v_X12_flag (if (μ11.1 49 29) ≤ (r10.1) then 0 else 1 : Int32))) μ11); (let μ18 : Mm := (e_X12_enters (Int32.toInt64 (2000 + (v_X12_moment 52 μ15))) μ15); (let μ22 : Mm := (if (r10.1) ≤ 0 then μ18 else ((e_X12_adds (r10.1) μ18)) : Mm); μ22)))))) else (r5.2.2))))) (fun μ2 eμ2 => ?_)
  have fμ2 : Fs [50, 52, 59, 60, 61, 62, 63, 64, 65, 1000, 1001, 1009, 1010, 1011, 1012, 1013, 1023, 1029] μ μ2 := by
    rw [eμ2]
    exact (Fs.call fμ1 (fs_X12_begins 60 μ1) (by simp))
  refine lt_ (P := fun z => Fs [50, 52, 59, 60, 61, 62, 63, 64, 65, 1000, 1001, 1009, 1010, 1011, 1012, 1013, 1023, 1029] μ z) ((upI μ2 49 29 0)) (fun μ3 : Mm => (let r5 : Int32 × Int32 × Mm := whl (fun s : Int32 × Int32 × Mm => bd_X12_morning_19  s.1 s.2.1 s.2.2) (fun s : Int32 × Int32 × Mm => (0, 0, s.2.2)) FU ((v_X12_begins 60 μ1), 1, μ3); (if 0 ≤ (v_X12_faultOf (r5.1) 60 (r5.2.1) (r5.2.2)) then (let μ8 : Mm := (e_X12_putsBy  (r5.2.2)); (let r10 : Int32 × Mm := whl (fun s : Int32 × Mm => bd_X12_morning_64  s.1 s.2) (fun s : Int32 × Mm => (0, s.2)) FU (0, μ8); (let μ11 : Mm := (upI (r10.2) 49 1 0); (let μ15 : Mm := (e_X12_enters (Int32.toInt64 (v_X12_flag (if (μ11.1 49 29) ≤ (r10.1) then 0 else 1 : Int32))) μ11); (let μ18 : Mm := (e_X12_enters (Int32.toInt64 (2000 + (v_X12_moment 52 μ15))) μ15); (let μ22 : Mm := (if (r10.1) ≤ 0 then μ18 else ((e_X12_adds (r10.1) μ18)) : Mm); μ22)))))) else (r5.2.2)))) (fun μ3 eμ3 => ?_)
  have fμ3 : Fs [50, 52, 59, 60, 61, 62, 63, 64, 65, 1000, 1001, 1009, 1010, 1011, 1012, 1013, 1023, 1029] μ μ3 := by
    rw [eμ3]
    exact (Fs.upF fμ2 (by simp))
  refine lt_ (P := fun z => Fs [50, 52, 59, 60, 61, 62, 63, 64, 65, 1000, 1001, 1009, 1010, 1011, 1012, 1013, 1023, 1029] μ z) (whl (fun s : Int32 × Int32 × Mm => bd_X12_morning_19  s.1 s.2.1 s.2.2) (fun s : Int32 × Int32 × Mm => (0, 0, s.2.2)) FU ((v_X12_begins 60 μ1), 1, μ3)) (fun r5 : Int32 × Int32 × Mm => (if 0 ≤ (v_X12_faultOf (r5.1) 60 (r5.2.1) (r5.2.2)) then (let μ8 : Mm := (e_X12_putsBy  (r5.2.2)); (let r10 : Int32 × Mm := whl (fun s : Int32 × Mm => bd_X12_morning_64  s.1 s.2) (fun s : Int32 × Mm => (0, s.2)) FU (0, μ8); (let μ11 : Mm := (upI (r10.2) 49 1 0); (let μ15 : Mm := (e_X12_enters (Int32.toInt64 (v_X12_flag (if (μ11.1 49 29) ≤ (r10.1) then 0 else 1 : Int32))) μ11); (let μ18 : Mm := (e_X12_enters (Int32.toInt64 (2000 + (v_X12_moment 52 μ15))) μ15); (let μ22 : Mm := (if (r10.1) ≤ 0 then μ18 else ((e_X12_adds (r10.1) μ18)) : Mm); μ22)))))) else (r5.2.2))) (fun r5 er5 => ?_)
  have fr5 : Fs [50, 52, 59, 60, 61, 62, 63, 64, 65, 1000, 1001, 1009, 1010, 1011, 1012, 1013, 1023, 1029] μ (r5.2.2) := by
    rw [er5]
    exact Fs.call fμ3 (fsw_X12_morning_19  _) (by simp)
  refine Fs.ite ?_ ?_
  · refine lt_ (P := fun z => Fs [50, 52, 59, 60, 61, 62, 63, 64, 65, 1000, 1001, 1009, 1010, 1011, 1012, 1013, 1023, 1029] μ z) ((e_X12_putsBy  (r5.2.2))) (fun μ8 : Mm => (let r10 : Int32 × Mm := whl (fun s : Int32 × Mm => bd_X12_morning_64  s.1 s.2) (fun s : Int32 × Mm => (0, s.2)) FU (0, μ8); (let μ11 : Mm := (upI (r10.2) 49 1 0); (let μ15 : Mm := (e_X12_enters (Int32.toInt64 (v_X12_flag (if (μ11.1 49 29) ≤ (r10.1) then 0 else 1 : Int32))) μ11); (let μ18 : Mm := (e_X12_enters (Int32.toInt64 (2000 + (v_X12_moment 52 μ15))) μ15); (let μ22 : Mm := (if (r10.1) ≤ 0 then μ18 else ((e_X12_adds (r10.1) μ18)) : Mm); μ22)))))) (fun μ8 eμ8 => ?_)
    have fμ8 : Fs [50, 52, 59, 60, 61, 62, 63, 64, 65, 1000, 1001, 1009, 1010, 1011, 1012, 1013, 1023, 1029] μ μ8 := by
      rw [eμ8]
      exact (Fs.call fr5 (fs_X12_putsBy (r5.2.2)) (by simp))
    refine lt_ (P := fun z => Fs [50, 52, 59, 60, 61, 62, 63, 64, 65, 1000, 1001, 1009, 1010, 1011, 1012, 1013, 1023, 1029] μ z) (whl (fun s : Int32 × Mm => bd_X12_morning_64  s.1 s.2) (fun s : Int32 × Mm => (0, s.2)) FU (0, μ8)) (fun r10 : Int32 × Mm => (let μ11 : Mm := (upI (r10.2) 49 1 0); (let μ15 : Mm := (e_X12_enters (Int32.toInt64 (v_X12_flag (if (μ11.1 49 29) ≤ (r10.1) then 0 else 1 : Int32))) μ11); (let μ18 : Mm := (e_X12_enters (Int32.toInt64 (2000 + (v_X12_moment 52 μ15))) μ15); (let μ22 : Mm := (if (r10.1) ≤ 0 then μ18 else ((e_X12_adds (r10.1) μ18)) : Mm); μ22))))) (fun r10 er10 => ?_)
    have fr10 : Fs [50, 52, 59, 60, 61, 62, 63, 64, 65, 1000, 1001, 1009, 1010, 1011, 1012, 1013, 1023, 1029] μ (r10.2) := by
      rw [er10]
      exact Fs.call fμ8 (fsw_X12_morning_64  _) (by simp)
    refine lt_ (P := fun z => Fs [50, 52, 59, 60, 61, 62, 63, 64, 65, 1000, 1001, 1009, 1010, 1011, 1012, 1013, 1023, 1029] μ z) ((upI (r10.2) 49 1 0)) (fun μ11 : Mm => (let μ15 : Mm := (e_X12_enters (Int32.toInt64 (v_X12_flag (if (μ11.1 49 29) ≤ (r10.1) then 0 else 1 : Int32))) μ11); (let μ18 : Mm := (e_X12_enters (Int32.toInt64 (2000 + (v_X12_moment 52 μ15))) μ15); (let μ22 : Mm := (if (r10.1) ≤ 0 then μ18 else ((e_X12_adds (r10.1) μ18)) : Mm); μ22)))) (fun μ11 eμ11 => ?_)
    have fμ11 : Fs [50, 52, 59, 60, 61, 62, 63, 64, 65, 1000, 1001, 1009, 1010, 1011, 1012, 1013, 1023, 1029] μ μ11 := by
      rw [eμ11]
      exact (Fs.upF fr10 (by simp))
    refine lt_ (P := fun z => Fs [50, 52, 59, 60, 61, 62, 63, 64, 65, 1000, 1001, 1009, 1010, 1011, 1012, 1013, 1023, 1029] μ z) ((e_X12_enters (Int32.toInt64 (v_X12_flag (if (μ11.1 49 29) ≤ (r10.1) then 0 else 1 : Int32))) μ11)) (fun μ15 : Mm => (let μ18 : Mm := (e_X12_enters (Int32.toInt64 (2000 + (v_X12_moment 52 μ15))) μ15); (let μ22 : Mm := (if (r10.1) ≤ 0 then μ18 else ((e_X12_adds (r10.1) μ18)) : Mm); μ22))) (fun μ15 eμ15 => ?_)
    have fμ15 : Fs [50, 52, 59, 60, 61, 62, 63, 64, 65, 1000, 1001, 1009, 1010, 1011, 1012, 1013, 1023, 1029] μ μ15 := by
      rw [eμ15]
      exact (Fs.call fμ11 (fs_X12_enters (Int32.toInt64 (v_X12_flag (if (μ11.1 49 29) ≤ (r10.1) then 0 else 1 : Int32))) μ11) (by simp))
    refine lt_ (P := fun z => Fs [50, 52, 59, 60, 61, 62, 63, 64, 65, 1000, 1001, 1009, 1010, 1011, 1012, 1013, 1023, 1029] μ z) ((e_X12_enters (Int32.toInt64 (2000 + (v_X12_moment 52 μ15))) μ15)) (fun μ18 : Mm => (let μ22 : Mm := (if (r10.1) ≤ 0 then μ18 else ((e_X12_adds (r10.1) μ18)) : Mm); μ22)) (fun μ18 eμ18 => ?_)
    have fμ18 : Fs [50, 52, 59, 60, 61, 62, 63, 64, 65, 1000, 1001, 1009, 1010, 1011, 1012, 1013, 1023, 1029] μ μ18 := by
      rw [eμ18]
      exact (Fs.call fμ15 (fs_X12_enters (Int32.toInt64 (2000 + (v_X12_moment 52 μ15))) μ15) (by simp))
    refine lt_ (P := fun z => Fs [50, 52, 59, 60, 61, 62, 63, 64, 65, 1000, 1001, 1009, 1010, 1011, 1012, 1013, 1023, 1029] μ z) ((if (r10.1) ≤ 0 then μ18 else ((e_X12_adds (r10.1) μ18)) : Mm)) (fun μ22 : Mm => μ22) (fun μ22 eμ22 => ?_)
    have fμ22 : Fs [50, 52, 59, 60, 61, 62, 63, 64, 65, 1000, 1001, 1009, 1010, 1011, 1012, 1013, 1023, 1029] μ μ22 := by
      rw [eμ22]
      exact (Fs.ite fμ18 (Fs.call fμ18 (fs_X12_adds (r10.1) μ18) (by simp)))
    exact fμ22
  · exact fr5
set_option maxRecDepth 20000 in
set_option maxHeartbeats 400000 in
theorem fsw_X12_people_29  (s : Int32 × Int32 × Int32 × Mm) : Fs [55, 56, 1010, 1013, 1016] (s.2.2.2) ((whl (fun s : Int32 × Int32 × Int32 × Mm => bd_X12_people_29  s.1 s.2.1 s.2.2.1 s.2.2.2) (fun s : Int32 × Int32 × Int32 × Mm => (0, 0, s.2.2.2)) FU s).2.2) := by
  have key : ∀ s : Int32 × Int32 × Int32 × Mm, FsS [55, 56, 1010, 1013, 1016] (s.2.2.2) (fun s : Int32 × Int32 × Int32 × Mm => s.2.2.2) (fun r : Int32 × Int32 × Mm => r.2.2) ((fun s : Int32 × Int32 × Int32 × Mm => bd_X12_people_29  s.1 s.2.1 s.2.2.1 s.2.2.2) s) := by
    rintro ⟨x1, x2, x3, μ⟩
    show FsS [55, 56, 1010, 1013, 1016] μ (fun s : Int32 × Int32 × Int32 × Mm => s.2.2.2) (fun r : Int32 × Int32 × Mm => r.2.2) (bd_X12_people_29  x1 x2 x3 μ)
    unfold bd_X12_people_29
    refine FsS.ite ?_ ?_
    · exact FsS.inr Fs.rfl
    · refine lt_ (P := fun z => FsS [55, 56, 1010, 1013, 1016] μ (fun s : Int32 × Int32 × Int32 × Mm => s.2.2.2) (fun r : Int32 × Int32 × Mm => r.2.2) z) ((e_X12_readsOne  μ)) (fun μ3 : Mm => (let μ8 : Mm := (if (v_X12_readsOne  μ) = 0 then μ3 else ((e_X12_takes 59 μ3)) : Mm); .inl (x1, (v_X12_readsOne  μ), (if (v_X12_readsOne  μ) = 0 then 0 else (if (v_X12_takes 59 μ3) = 0 then 0 else 1 : Int32) : Int32), μ8))) (fun μ3 eμ3 => ?_)
      have fμ3 : Fs [55, 56, 1010, 1013, 1016] μ μ3 := by
        rw [eμ3]
        exact (Fs.call Fs.rfl (fs_X12_readsOne μ) (by simp))
      refine lt_ (P := fun z => FsS [55, 56, 1010, 1013, 1016] μ (fun s : Int32 × Int32 × Int32 × Mm => s.2.2.2) (fun r : Int32 × Int32 × Mm => r.2.2) z) ((if (v_X12_readsOne  μ) = 0 then μ3 else ((e_X12_takes 59 μ3)) : Mm)) (fun μ8 : Mm => .inl (x1, (v_X12_readsOne  μ), (if (v_X12_readsOne  μ) = 0 then 0 else (if (v_X12_takes 59 μ3) = 0 then 0 else 1 : Int32) : Int32), μ8)) (fun μ8 eμ8 => ?_)
      have fμ8 : Fs [55, 56, 1010, 1013, 1016] μ μ8 := by
        rw [eμ8]
        exact (Fs.ite fμ3 (Fs.call fμ3 (fs_X12_takes 59 μ3) (by simp)))
      exact FsS.inl fμ8
  exact Fs_whlK (S := [55, 56, 1010, 1013, 1016]) (f := (fun s : Int32 × Int32 × Int32 × Mm => bd_X12_people_29  s.1 s.2.1 s.2.2.1 s.2.2.2)) (dd := (fun s : Int32 × Int32 × Int32 × Mm => (0, 0, s.2.2.2))) (fun s : Int32 × Int32 × Int32 × Mm => s.2.2.2) (fun r : Int32 × Int32 × Mm => r.2.2) (fun _ => rfl) key FU s
set_option maxRecDepth 20000 in
set_option maxHeartbeats 400000 in
theorem fsw_X12_people_81  (s : Int32 × Mm) : Fs [51, 52, 1003] (s.2) ((whl (fun s : Int32 × Mm => bd_X12_people_81  s.1 s.2) (fun s : Int32 × Mm => s.2) FU s)) := by
  have key : ∀ s : Int32 × Mm, FsS [51, 52, 1003] (s.2) (fun s : Int32 × Mm => s.2) (fun r : Mm => r) ((fun s : Int32 × Mm => bd_X12_people_81  s.1 s.2) s) := by
    rintro ⟨x5, μ⟩
    show FsS [51, 52, 1003] μ (fun s : Int32 × Mm => s.2) (fun r : Mm => r) (bd_X12_people_81  x5 μ)
    unfold bd_X12_people_81
    refine FsS.ite ?_ ?_
    · exact FsS.inr Fs.rfl
    · refine lt_ (P := fun z => FsS [51, 52, 1003] μ (fun s : Int32 × Mm => s.2) (fun r : Mm => r) z) ((upI μ 51 (Int32.toNatClampNeg (μ.1 49 3)) (μ.1 55 (Int32.toNatClampNeg x5)))) (fun μ4 : Mm => (let μ7 : Mm := (upI μ4 52 (Int32.toNatClampNeg (μ4.1 49 3)) (μ4.1 56 (Int32.toNatClampNeg x5))); (let μ8 : Mm := (upI μ7 49 3 ((μ7.1 49 3) + 1)); .inl ((x5 + 1), μ8)))) (fun μ4 eμ4 => ?_)
      have fμ4 : Fs [51, 52, 1003] μ μ4 := by
        rw [eμ4]
        exact (Fs.up Fs.rfl (by simp))
      refine lt_ (P := fun z => FsS [51, 52, 1003] μ (fun s : Int32 × Mm => s.2) (fun r : Mm => r) z) ((upI μ4 52 (Int32.toNatClampNeg (μ4.1 49 3)) (μ4.1 56 (Int32.toNatClampNeg x5)))) (fun μ7 : Mm => (let μ8 : Mm := (upI μ7 49 3 ((μ7.1 49 3) + 1)); .inl ((x5 + 1), μ8))) (fun μ7 eμ7 => ?_)
      have fμ7 : Fs [51, 52, 1003] μ μ7 := by
        rw [eμ7]
        exact (Fs.up fμ4 (by simp))
      refine lt_ (P := fun z => FsS [51, 52, 1003] μ (fun s : Int32 × Mm => s.2) (fun r : Mm => r) z) ((upI μ7 49 3 ((μ7.1 49 3) + 1))) (fun μ8 : Mm => .inl ((x5 + 1), μ8)) (fun μ8 eμ8 => ?_)
      have fμ8 : Fs [51, 52, 1003] μ μ8 := by
        rw [eμ8]
        exact (Fs.upF fμ7 (by simp))
      exact FsS.inl fμ8
  exact Fs_whlK (S := [51, 52, 1003]) (f := (fun s : Int32 × Mm => bd_X12_people_81  s.1 s.2)) (dd := (fun s : Int32 × Mm => s.2)) (fun s : Int32 × Mm => s.2) (fun r : Mm => r) (fun _ => rfl) key FU s
set_option maxRecDepth 20000 in
set_option maxHeartbeats 400000 in
theorem fs_X12_people  (μ : Mm) : Fs [51, 52, 55, 56, 1000, 1003, 1004, 1009, 1010, 1011, 1012, 1013, 1016, 1023] μ (e_X12_people  μ) := by
  unfold e_X12_people
  refine lt_ (P := fun z => Fs [51, 52, 55, 56, 1000, 1003, 1004, 1009, 1010, 1011, 1012, 1013, 1016, 1023] μ z) ((upI μ 49 0 0)) (fun μ1 : Mm => (let μ2 : Mm := (e_X12_begins 27 μ1); (let μ3 : Mm := (upI μ2 49 16 0); (let r7 : Int32 × Int32 × Mm := whl (fun s : Int32 × Int32 × Int32 × Mm => bd_X12_people_29  s.1 s.2.1 s.2.2.1 s.2.2.2) (fun s : Int32 × Int32 × Int32 × Mm => (0, 0, s.2.2.2)) FU ((v_X12_begins 27 μ1), 1, (if (v_X12_begins 27 μ1) ≤ 0 then 0 else 1 : Int32), μ3); (if 0 ≤ (v_X12_faultOf (r7.1) 27 (r7.2.1) (r7.2.2)) then (let r10 : Mm := whl (fun s : Int32 × Mm => bd_X12_people_81  s.1 s.2) (fun s : Int32 × Mm => s.2) FU (0, (r7.2.2)); (let μ13 : Mm := (upI r10 49 23 (if (r10.1 49 16) ≤ 0 then (r10.1 49 23) else 0 : Int32)); (let μ16 : Mm := (upI μ13 49 4 ((μ13.1 49 4) + (v_X12_flag (if (μ13.1 49 16) ≤ 0 then 0 else 1 : Int32)))); μ16))) else (r7.2.2)))))) (fun μ1 eμ1 => ?_)
  have fμ1 : Fs [51, 52, 55, 56, 1000, 1003, 1004, 1009, 1010, 1011, 1012, 1013, 1016, 1023] μ μ1 := by
    rw [eμ1]
    exact (Fs.upF Fs.rfl (by simp))
  refine lt_ (P := fun z => Fs [51, 52, 55, 56, 1000, 1003, 1004, 1009, 1010, 1011, 1012, 1013, 1016, 1023] μ z) ((e_X12_begins 27 μ1)) (fun μ2 : Mm => (let μ3 : Mm := (upI μ2 49 16 0); (let r7 : Int32 × Int32 × Mm := whl (fun s : Int32 × Int32 × Int32 × Mm => bd_X12_people_29  s.1 s.2.1 s.2.2.1 s.2.2.2) (fun s : Int32 × Int32 × Int32 × Mm => (0, 0, s.2.2.2)) FU ((v_X12_begins 27 μ1), 1, (if (v_X12_begins 27 μ1) ≤ 0 then 0 else 1 : Int32), μ3); (if 0 ≤ (v_X12_faultOf (r7.1) 27 (r7.2.1) (r7.2.2)) then (let r10 : Mm := whl (fun s : Int32 × Mm => bd_X12_people_81  s.1 s.2) (fun s : Int32 × Mm => s.2) FU (0, (r7.2.2)); (let μ13 : Mm := (upI r10 49 23 (if (r10.1 49 16) ≤ 0 then (r10.1 49 23) else 0 : Int32)); (let μ16 : Mm := (upI μ13 49 4 ((μ13.1 49 4) + (v_X12_flag (if (μ13.1 49 16) ≤ 0 then 0 else 1 : Int32)))); μ16))) else (r7.2.2))))) (fun μ2 eμ2 => ?_)
  have fμ2 : Fs [51, 52, 55, 56, 1000, 1003, 1004, 1009, 1010, 1011, 1012, 1013, 1016, 1023] μ μ2 := by
    rw [eμ2]
    exact (Fs.call fμ1 (fs_X12_begins 27 μ1) (by simp))
  refine lt_ (P := fun z => Fs [51, 52, 55, 56, 1000, 1003, 1004, 1009, 1010, 1011, 1012, 1013, 1016, 1023] μ z) ((upI μ2 49 16 0)) (fun μ3 : Mm => (let r7 : Int32 × Int32 × Mm := whl (fun s : Int32 × Int32 × Int32 × Mm => bd_X12_people_29  s.1 s.2.1 s.2.2.1 s.2.2.2) (fun s : Int32 × Int32 × Int32 × Mm => (0, 0, s.2.2.2)) FU ((v_X12_begins 27 μ1), 1, (if (v_X12_begins 27 μ1) ≤ 0 then 0 else 1 : Int32), μ3); (if 0 ≤ (v_X12_faultOf (r7.1) 27 (r7.2.1) (r7.2.2)) then (let r10 : Mm := whl (fun s : Int32 × Mm => bd_X12_people_81  s.1 s.2) (fun s : Int32 × Mm => s.2) FU (0, (r7.2.2)); (let μ13 : Mm := (upI r10 49 23 (if (r10.1 49 16) ≤ 0 then (r10.1 49 23) else 0 : Int32)); (let μ16 : Mm := (upI μ13 49 4 ((μ13.1 49 4) + (v_X12_flag (if (μ13.1 49 16) ≤ 0 then 0 else 1 : Int32)))); μ16))) else (r7.2.2)))) (fun μ3 eμ3 => ?_)
  have fμ3 : Fs [51, 52, 55, 56, 1000, 1003, 1004, 1009, 1010, 1011, 1012, 1013, 1016, 1023] μ μ3 := by
    rw [eμ3]
    exact (Fs.upF fμ2 (by simp))
  refine lt_ (P := fun z => Fs [51, 52, 55, 56, 1000, 1003, 1004, 1009, 1010, 1011, 1012, 1013, 1016, 1023] μ z) (whl (fun s : Int32 × Int32 × Int32 × Mm => bd_X12_people_29  s.1 s.2.1 s.2.2.1 s.2.2.2) (fun s : Int32 × Int32 × Int32 × Mm => (0, 0, s.2.2.2)) FU ((v_X12_begins 27 μ1), 1, (if (v_X12_begins 27 μ1) ≤ 0 then 0 else 1 : Int32), μ3)) (fun r7 : Int32 × Int32 × Mm => (if 0 ≤ (v_X12_faultOf (r7.1) 27 (r7.2.1) (r7.2.2)) then (let r10 : Mm := whl (fun s : Int32 × Mm => bd_X12_people_81  s.1 s.2) (fun s : Int32 × Mm => s.2) FU (0, (r7.2.2)); (let μ13 : Mm := (upI r10 49 23 (if (r10.1 49 16) ≤ 0 then (r10.1 49 23) else 0 : Int32)); (let μ16 : Mm := (upI μ13 49 4 ((μ13.1 49 4) + (v_X12_flag (if (μ13.1 49 16) ≤ 0 then 0 else 1 : Int32)))); μ16))) else (r7.2.2))) (fun r7 er7 => ?_)
  have fr7 : Fs [51, 52, 55, 56, 1000, 1003, 1004, 1009, 1010, 1011, 1012, 1013, 1016, 1023] μ (r7.2.2) := by
    rw [er7]
    exact Fs.call fμ3 (fsw_X12_people_29  _) (by simp)
  refine Fs.ite ?_ ?_
  · refine lt_ (P := fun z => Fs [51, 52, 55, 56, 1000, 1003, 1004, 1009, 1010, 1011, 1012, 1013, 1016, 1023] μ z) (whl (fun s : Int32 × Mm => bd_X12_people_81  s.1 s.2) (fun s : Int32 × Mm => s.2) FU (0, (r7.2.2))) (fun r10 : Mm => (let μ13 : Mm := (upI r10 49 23 (if (r10.1 49 16) ≤ 0 then (r10.1 49 23) else 0 : Int32)); (let μ16 : Mm := (upI μ13 49 4 ((μ13.1 49 4) + (v_X12_flag (if (μ13.1 49 16) ≤ 0 then 0 else 1 : Int32)))); μ16))) (fun r10 er10 => ?_)
    have fr10 : Fs [51, 52, 55, 56, 1000, 1003, 1004, 1009, 1010, 1011, 1012, 1013, 1016, 1023] μ r10 := by
      rw [er10]
      exact Fs.call fr7 (fsw_X12_people_81  _) (by simp)
    refine lt_ (P := fun z => Fs [51, 52, 55, 56, 1000, 1003, 1004, 1009, 1010, 1011, 1012, 1013, 1016, 1023] μ z) ((upI r10 49 23 (if (r10.1 49 16) ≤ 0 then (r10.1 49 23) else 0 : Int32))) (fun μ13 : Mm => (let μ16 : Mm := (upI μ13 49 4 ((μ13.1 49 4) + (v_X12_flag (if (μ13.1 49 16) ≤ 0 then 0 else 1 : Int32)))); μ16)) (fun μ13 eμ13 => ?_)
    have fμ13 : Fs [51, 52, 55, 56, 1000, 1003, 1004, 1009, 1010, 1011, 1012, 1013, 1016, 1023] μ μ13 := by
      rw [eμ13]
      exact (Fs.upF fr10 (by simp))
    refine lt_ (P := fun z => Fs [51, 52, 55, 56, 1000, 1003, 1004, 1009, 1010, 1011, 1012, 1013, 1016, 1023] μ z) ((upI μ13 49 4 ((μ13.1 49 4) + (v_X12_flag (if (μ13.1 49 16) ≤ 0 then 0 else 1 : Int32))))) (fun μ16 : Mm => μ16) (fun μ16 eμ16 => ?_)
    have fμ16 : Fs [51, 52, 55, 56, 1000, 1003, 1004, 1009, 1010, 1011, 1012, 1013, 1016, 1023] μ μ16 := by
      rw [eμ16]
      exact (Fs.upF fμ13 (by simp))
    exact fμ16
  · exact fr7
set_option maxRecDepth 20000 in
set_option maxHeartbeats 400000 in
theorem fsw_X12_spares_14  (s : Int32 × Int32 × Int32 × Mm) : Fs [53, 59, 60, 62] (s.2.2.2) ((whl (fun s : Int32 × Int32 × Int32 × Mm => bd_X12_spares_14  s.1 s.2.1 s.2.2.1 s.2.2.2) (fun s : Int32 × Int32 × Int32 × Mm => (0, 0, s.2.2.2)) FU s).2.2) := by
  have key : ∀ s : Int32 × Int32 × Int32 × Mm, FsS [53, 59, 60, 62] (s.2.2.2) (fun s : Int32 × Int32 × Int32 × Mm => s.2.2.2) (fun r : Int32 × Int32 × Mm => r.2.2) ((fun s : Int32 × Int32 × Int32 × Mm => bd_X12_spares_14  s.1 s.2.1 s.2.2.1 s.2.2.2) s) := by
    rintro ⟨x1, x2, x3, μ⟩
    show FsS [53, 59, 60, 62] μ (fun s : Int32 × Int32 × Int32 × Mm => s.2.2.2) (fun r : Int32 × Int32 × Mm => r.2.2) (bd_X12_spares_14  x1 x2 x3 μ)
    unfold bd_X12_spares_14
    refine FsS.ite ?_ ?_
    · exact FsS.inr Fs.rfl
    · refine lt_ (P := fun z => FsS [53, 59, 60, 62] μ (fun s : Int32 × Int32 × Int32 × Mm => s.2.2.2) (fun r : Int32 × Int32 × Mm => r.2.2) z) ((if (v_X12_has (v_X12_here 52 μ) x3) = 0 then μ else ((e_X12_goesOn 53 (if 0 < ((((e_X12_stepsOff 53 x3 ((e_X12_copies  μ)))).1 53 (Int32.toNatClampNeg 23)) - (((e_X12_stepsOff 53 x3 ((e_X12_copies  μ)))).1 53 (Int32.toNatClampNeg 22))) then ((((e_X12_stepsOff 53 x3 ((e_X12_copies  μ)))).1 53 (Int32.toNatClampNeg 23)) - (((e_X12_stepsOff 53 x3 ((e_X12_copies  μ)))).1 53 (Int32.toNatClampNeg 22))) else 0) ((e_X12_stepsOff 53 x3 ((e_X12_copies  μ)))))) : Mm)) (fun μ12 : Mm => .inl ((if (v_X12_has (v_X12_here 52 μ) x3) = 0 then x1 else (if (v_X12_moment 53 ((e_X12_goesOn 53 (if 0 < ((((e_X12_stepsOff 53 x3 ((e_X12_copies  μ)))).1 53 (Int32.toNatClampNeg 23)) - (((e_X12_stepsOff 53 x3 ((e_X12_copies  μ)))).1 53 (Int32.toNatClampNeg 22))) then ((((e_X12_stepsOff 53 x3 ((e_X12_copies  μ)))).1 53 (Int32.toNatClampNeg 23)) - (((e_X12_stepsOff 53 x3 ((e_X12_copies  μ)))).1 53 (Int32.toNatClampNeg 22))) else 0) ((e_X12_stepsOff 53 x3 ((e_X12_copies  μ))))))) ≤ x2 then x1 else x3 : Int32) : Int32), (if (v_X12_has (v_X12_here 52 μ) x3) = 0 then x2 else (if x2 < (v_X12_moment 53 ((e_X12_goesOn 53 (if 0 < ((((e_X12_stepsOff 53 x3 ((e_X12_copies  μ)))).1 53 (Int32.toNatClampNeg 23)) - (((e_X12_stepsOff 53 x3 ((e_X12_copies  μ)))).1 53 (Int32.toNatClampNeg 22))) then ((((e_X12_stepsOff 53 x3 ((e_X12_copies  μ)))).1 53 (Int32.toNatClampNeg 23)) - (((e_X12_stepsOff 53 x3 ((e_X12_copies  μ)))).1 53 (Int32.toNatClampNeg 22))) else 0) ((e_X12_stepsOff 53 x3 ((e_X12_copies  μ))))))) then (v_X12_moment 53 ((e_X12_goesOn 53 (if 0 < ((((e_X12_stepsOff 53 x3 ((e_X12_copies  μ)))).1 53 (Int32.toNatClampNeg 23)) - (((e_X12_stepsOff 53 x3 ((e_X12_copies  μ)))).1 53 (Int32.toNatClampNeg 22))) then ((((e_X12_stepsOff 53 x3 ((e_X12_copies  μ)))).1 53 (Int32.toNatClampNeg 23)) - (((e_X12_stepsOff 53 x3 ((e_X12_copies  μ)))).1 53 (Int32.toNatClampNeg 22))) else 0) ((e_X12_stepsOff 53 x3 ((e_X12_copies  μ))))))) else x2) : Int32), (x3 + 1), μ12)) (fun μ12 eμ12 => ?_)
      have fμ12 : Fs [53, 59, 60, 62] μ μ12 := by
        rw [eμ12]
        exact (Fs.ite Fs.rfl (Fs.call (Fs.call (Fs.call Fs.rfl (fs_X12_copies μ) (by simp)) (fs_X12_stepsOff 53 x3 ((e_X12_copies  μ))) (by simp)) (fs_X12_goesOn 53 (if 0 < ((((e_X12_stepsOff 53 x3 ((e_X12_copies  μ)))).1 53 (Int32.toNatClampNeg 23)) - (((e_X12_stepsOff 53 x3 ((e_X12_copies  μ)))).1 53 (Int32.toNatClampNeg 22))) then ((((e_X12_stepsOff 53 x3 ((e_X12_copies  μ)))).1 53 (Int32.toNatClampNeg 23)) - (((e_X12_stepsOff 53 x3 ((e_X12_copies  μ)))).1 53 (Int32.toNatClampNeg 22))) else 0) ((e_X12_stepsOff 53 x3 ((e_X12_copies  μ))))) (by simp)))
      exact FsS.inl fμ12
  exact Fs_whlK (S := [53, 59, 60, 62]) (f := (fun s : Int32 × Int32 × Int32 × Mm => bd_X12_spares_14  s.1 s.2.1 s.2.2.1 s.2.2.2)) (dd := (fun s : Int32 × Int32 × Int32 × Mm => (0, 0, s.2.2.2))) (fun s : Int32 × Int32 × Int32 × Mm => s.2.2.2) (fun r : Int32 × Int32 × Mm => r.2.2) (fun _ => rfl) key FU s
set_option maxRecDepth 20000 in
set_option maxHeartbeats 400000 in
theorem fs_X12_spares  (μ : Mm) : Fs [50, 53, 59, 60, 62, 1000, 1001] μ (e_X12_spares  μ) := by
  unfold e_X12_spares
  refine lt_ (P := fun z => Fs [50, 53, 59, 60, 62, 1000, 1001] μ z) ((upI μ 49 0 0)) (fun μ1 : Mm => (let r3 : Int32 × Int32 × Mm := whl (fun s : Int32 × Int32 × Int32 × Mm => bd_X12_spares_14  s.1 s.2.1 s.2.2.1 s.2.2.2) (fun s : Int32 × Int32 × Int32 × Mm => (0, 0, s.2.2.2)) FU ((-2), (-1000000), 0, μ1); (let μ13 : Mm := (if (r3.1) < 0 then (r3.2.2) else ((e_X12_enters (Int32.toInt64 (2000 + (v_X12_moment 53 ((e_X12_enters (Int32.toInt64 (2000 + (r3.2.1))) ((upI ((e_X12_goesToNoon  (r3.2.2))) 49 1 0))))))) ((e_X12_enters (Int32.toInt64 (2000 + (r3.2.1))) ((upI ((e_X12_goesToNoon  (r3.2.2))) 49 1 0)))))) : Mm); μ13))) (fun μ1 eμ1 => ?_)
  have fμ1 : Fs [50, 53, 59, 60, 62, 1000, 1001] μ μ1 := by
    rw [eμ1]
    exact (Fs.upF Fs.rfl (by simp))
  refine lt_ (P := fun z => Fs [50, 53, 59, 60, 62, 1000, 1001] μ z) (whl (fun s : Int32 × Int32 × Int32 × Mm => bd_X12_spares_14  s.1 s.2.1 s.2.2.1 s.2.2.2) (fun s : Int32 × Int32 × Int32 × Mm => (0, 0, s.2.2.2)) FU ((-2), (-1000000), 0, μ1)) (fun r3 : Int32 × Int32 × Mm => (let μ13 : Mm := (if (r3.1) < 0 then (r3.2.2) else ((e_X12_enters (Int32.toInt64 (2000 + (v_X12_moment 53 ((e_X12_enters (Int32.toInt64 (2000 + (r3.2.1))) ((upI ((e_X12_goesToNoon  (r3.2.2))) 49 1 0))))))) ((e_X12_enters (Int32.toInt64 (2000 + (r3.2.1))) ((upI ((e_X12_goesToNoon  (r3.2.2))) 49 1 0)))))) : Mm); μ13)) (fun r3 er3 => ?_)
  have fr3 : Fs [50, 53, 59, 60, 62, 1000, 1001] μ (r3.2.2) := by
    rw [er3]
    exact Fs.call fμ1 (fsw_X12_spares_14  _) (by simp)
  refine lt_ (P := fun z => Fs [50, 53, 59, 60, 62, 1000, 1001] μ z) ((if (r3.1) < 0 then (r3.2.2) else ((e_X12_enters (Int32.toInt64 (2000 + (v_X12_moment 53 ((e_X12_enters (Int32.toInt64 (2000 + (r3.2.1))) ((upI ((e_X12_goesToNoon  (r3.2.2))) 49 1 0))))))) ((e_X12_enters (Int32.toInt64 (2000 + (r3.2.1))) ((upI ((e_X12_goesToNoon  (r3.2.2))) 49 1 0)))))) : Mm)) (fun μ13 : Mm => μ13) (fun μ13 eμ13 => ?_)
  have fμ13 : Fs [50, 53, 59, 60, 62, 1000, 1001] μ μ13 := by
    rw [eμ13]
    exact (Fs.ite fr3 (Fs.call (Fs.call (Fs.upF (Fs.call fr3 (fs_X12_goesToNoon (r3.2.2)) (by simp)) (by simp)) (fs_X12_enters (Int32.toInt64 (2000 + (r3.2.1))) ((upI ((e_X12_goesToNoon  (r3.2.2))) 49 1 0))) (by simp)) (fs_X12_enters (Int32.toInt64 (2000 + (v_X12_moment 53 ((e_X12_enters (Int32.toInt64 (2000 + (r3.2.1))) ((upI ((e_X12_goesToNoon  (r3.2.2))) 49 1 0))))))) ((e_X12_enters (Int32.toInt64 (2000 + (r3.2.1))) ((upI ((e_X12_goesToNoon  (r3.2.2))) 49 1 0))))) (by simp)))
  exact fμ13
set_option maxRecDepth 20000 in
set_option maxHeartbeats 400000 in
theorem fw_X5_read_29 (b : Nat) (s : Int32 × Int32 × Mm) : Fr [(b + 1), (b + 3), (b + 4), b] (s.2.2) ((whl (fun s : Int32 × Int32 × Mm => bd_X5_read_29 b s.1 s.2.1 s.2.2) (fun s : Int32 × Int32 × Mm => (0, s.2.2)) FU s).2) := by
  have key : ∀ s : Int32 × Int32 × Mm, FrS [(b + 1), (b + 3), (b + 4), b] (s.2.2) (fun s : Int32 × Int32 × Mm => s.2.2) (fun r : Int32 × Mm => r.2) ((fun s : Int32 × Int32 × Mm => bd_X5_read_29 b s.1 s.2.1 s.2.2) s) := by
    rintro ⟨x2, x3, μ⟩
    show FrS [(b + 1), (b + 3), (b + 4), b] μ (fun s : Int32 × Int32 × Mm => s.2.2) (fun r : Int32 × Mm => r.2) (bd_X5_read_29 b x2 x3 μ)
    unfold bd_X5_read_29
    refine FrS.ite ?_ ?_
    · refine FrS.ite ?_ ?_
      · exact FrS.inr Fr.rfl
      · refine FrS.ite ?_ ?_
        · refine FrS.ite ?_ ?_
          · refine lt_ (P := fun z => FrS [(b + 1), (b + 3), (b + 4), b] μ (fun s : Int32 × Int32 × Mm => s.2.2) (fun r : Int32 × Mm => r.2) z) ((e_X5_emitWaiting b 1 μ)) (fun μ6 : Mm => .inr ((-1), μ6)) (fun μ6 eμ6 => ?_)
            have fμ6 : Fr [(b + 1), (b + 3), (b + 4), b] μ μ6 := by
              rw [eμ6]
              exact (Fr.call Fr.rfl (fr_X5_emitWaiting b 1 μ) (by simp))
            exact FrS.inr fμ6
          · exact FrS.inr Fr.rfl
        · exact FrS.inr Fr.rfl
    · refine lt_ (P := fun z => FrS [(b + 1), (b + 3), (b + 4), b] μ (fun s : Int32 × Int32 × Mm => s.2.2) (fun r : Int32 × Mm => r.2) z) ((if (μ.1 b 5) = 0 then ((e_X5_takeBehindThing b (v_X9_at x3 μ) μ)) else ((e_X5_takeThing b (v_X9_at x3 μ) μ)) : Mm)) (fun μ13 : Mm => (if (if (μ.1 b 5) = 0 then (v_X5_takeBehindThing b (v_X9_at x3 μ) μ) else (v_X5_takeThing b (v_X9_at x3 μ) μ) : Int32) = 0 then .inr (x3, μ13) else .inl (x2, (x3 + 1), μ13))) (fun μ13 eμ13 => ?_)
      have fμ13 : Fr [(b + 1), (b + 3), (b + 4), b] μ μ13 := by
        rw [eμ13]
        exact (Fr.ite (Fr.call Fr.rfl (fr_X5_takeBehindThing b (v_X9_at x3 μ) μ) (by simp)) (Fr.call Fr.rfl (fr_X5_takeThing b (v_X9_at x3 μ) μ) (by simp)))
      refine FrS.ite ?_ ?_
      · exact FrS.inr fμ13
      · exact FrS.inl fμ13
  exact Fr_whlK (S := [(b + 1), (b + 3), (b + 4), b]) (f := (fun s : Int32 × Int32 × Mm => bd_X5_read_29 b s.1 s.2.1 s.2.2)) (dd := (fun s : Int32 × Int32 × Mm => (0, s.2.2))) (fun s : Int32 × Int32 × Mm => s.2.2) (fun r : Int32 × Mm => r.2) (fun _ => rfl) key FU s
set_option maxRecDepth 20000 in
set_option maxHeartbeats 400000 in
theorem fr_X5_read (b : Nat) (μ : Mm) : Fr [(b + 1), (b + 3), (b + 4), b] μ (e_X5_read b μ) := by
  unfold e_X5_read
  refine lt_ (P := fun z => Fr [(b + 1), (b + 3), (b + 4), b] μ z) ((e_X5_startReading b μ)) (fun μ1 : Mm => (if (μ1.1 25 1) = 0 then (let μ4 : Mm := (e_X5_becomeNone b μ1); μ4) else (whl (fun s : Int32 × Int32 × Mm => bd_X5_read_29 b s.1 s.2.1 s.2.2) (fun s : Int32 × Int32 × Mm => (0, s.2.2)) FU ((if 40 < (μ1.1 25 1) then 40 else (μ1.1 25 1)), 0, μ1)).2)) (fun μ1 eμ1 => ?_)
  have fμ1 : Fr [(b + 1), (b + 3), (b + 4), b] μ μ1 := by
    rw [eμ1]
    exact (Fr.call Fr.rfl (fr_X5_startReading b μ) (by simp))
  refine Fr.ite ?_ ?_
  · refine lt_ (P := fun z => Fr [(b + 1), (b + 3), (b + 4), b] μ z) ((e_X5_becomeNone b μ1)) (fun μ4 : Mm => μ4) (fun μ4 eμ4 => ?_)
    have fμ4 : Fr [(b + 1), (b + 3), (b + 4), b] μ μ4 := by
      rw [eμ4]
      exact (Fr.call fμ1 (fr_X5_becomeNone b μ1) (by simp))
    exact fμ4
  · exact Fr.call fμ1 (fw_X5_read_29 b _) (by simp)
set_option maxRecDepth 20000 in
set_option maxHeartbeats 400000 in
theorem fr_X11_drawYear  (μ : Mm) : Fr [11, 12, 13, 14, 17, 45, 8] μ (e_X11_drawYear  μ) := by
  unfold e_X11_drawYear
  refine lt_ (P := fun z => Fr [11, 12, 13, 14, 17, 45, 8] μ z) ((e_X0_below 4 μ)) (fun μ2 : Mm => (let μ15 : Mm := (if 2 ≤ (v_X0_below 4 μ) then (if (μ2.1 8 0) ≤ 0 then μ2 else (if (v_X0_below 4 μ) = 2 then ((e_X1_burden 8 (v_X0_below (μ2.1 8 0) μ2) (v_X0_below 10 ((e_X0_below (μ2.1 8 0) μ2))) ((e_X0_below 10 ((e_X0_below (μ2.1 8 0) μ2)))))) else ((e_X1_stepOffOrOn 8 (v_X0_below (μ2.1 8 0) μ2) ((e_X0_below (μ2.1 8 0) μ2)))) : Mm) : Mm) else ((e_X1_pass 8 15 μ2)) : Mm); μ15)) (fun μ2 eμ2 => ?_)
  have fμ2 : Fr [11, 12, 13, 14, 17, 45, 8] μ μ2 := by
    rw [eμ2]
    exact (Fr.call Fr.rfl (fr_X0_below 4 μ) (by simp))
  refine lt_ (P := fun z => Fr [11, 12, 13, 14, 17, 45, 8] μ z) ((if 2 ≤ (v_X0_below 4 μ) then (if (μ2.1 8 0) ≤ 0 then μ2 else (if (v_X0_below 4 μ) = 2 then ((e_X1_burden 8 (v_X0_below (μ2.1 8 0) μ2) (v_X0_below 10 ((e_X0_below (μ2.1 8 0) μ2))) ((e_X0_below 10 ((e_X0_below (μ2.1 8 0) μ2)))))) else ((e_X1_stepOffOrOn 8 (v_X0_below (μ2.1 8 0) μ2) ((e_X0_below (μ2.1 8 0) μ2)))) : Mm) : Mm) else ((e_X1_pass 8 15 μ2)) : Mm)) (fun μ15 : Mm => μ15) (fun μ15 eμ15 => ?_)
  have fμ15 : Fr [11, 12, 13, 14, 17, 45, 8] μ μ15 := by
    rw [eμ15]
    exact (Fr.ite (Fr.ite fμ2 (Fr.ite (Fr.call (Fr.call (Fr.call fμ2 (fr_X0_below (μ2.1 8 0) μ2) (by simp)) (fr_X0_below 10 ((e_X0_below (μ2.1 8 0) μ2))) (by simp)) (fr_X1_burden 8 (v_X0_below (μ2.1 8 0) μ2) (v_X0_below 10 ((e_X0_below (μ2.1 8 0) μ2))) ((e_X0_below 10 ((e_X0_below (μ2.1 8 0) μ2))))) (by simp)) (Fr.call (Fr.call fμ2 (fr_X0_below (μ2.1 8 0) μ2) (by simp)) (fr_X1_stepOffOrOn 8 (v_X0_below (μ2.1 8 0) μ2) ((e_X0_below (μ2.1 8 0) μ2))) (by simp)))) (Fr.call fμ2 (fr_X1_pass 8 15 μ2) (by simp)))
  exact fμ15
set_option maxRecDepth 20000 in
set_option maxHeartbeats 400000 in
theorem fw_X11_years_37  (s : Int32 × Int32 × Int32 × Mm) : Fr [11, 12, 13, 14, 17, 45, 8] (s.2.2.2) ((whl (fun s : Int32 × Int32 × Int32 × Mm => bd_X11_years_37  s.1 s.2.1 s.2.2.1 s.2.2.2) (fun s : Int32 × Int32 × Int32 × Mm => (0, s.2.2.2)) FU s).2) := by
  have key : ∀ s : Int32 × Int32 × Int32 × Mm, FrS [11, 12, 13, 14, 17, 45, 8] (s.2.2.2) (fun s : Int32 × Int32 × Int32 × Mm => s.2.2.2) (fun r : Int32 × Mm => r.2) ((fun s : Int32 × Int32 × Int32 × Mm => bd_X11_years_37  s.1 s.2.1 s.2.2.1 s.2.2.2) s) := by
    rintro ⟨x2, x3, x4, μ⟩
    show FrS [11, 12, 13, 14, 17, 45, 8] μ (fun s : Int32 × Int32 × Int32 × Mm => s.2.2.2) (fun r : Int32 × Mm => r.2) (bd_X11_years_37  x2 x3 x4 μ)
    unfold bd_X11_years_37
    refine FrS.ite ?_ ?_
    · exact FrS.inr Fr.rfl
    · refine lt_ (P := fun z => FrS [11, 12, 13, 14, 17, 45, 8] μ (fun s : Int32 × Int32 × Int32 × Mm => s.2.2.2) (fun r : Int32 × Mm => r.2) z) ((e_X11_drawYear  μ)) (fun μ3 : Mm => .inl (x2, (x3 + (if (v_X1_moment 8 μ3) ≤ 0 then 0 else 1 : Int32)), (x4 + 1), μ3)) (fun μ3 eμ3 => ?_)
      have fμ3 : Fr [11, 12, 13, 14, 17, 45, 8] μ μ3 := by
        rw [eμ3]
        exact (Fr.call Fr.rfl (fr_X11_drawYear μ) (by simp))
      exact FrS.inl fμ3
  exact Fr_whlK (S := [11, 12, 13, 14, 17, 45, 8]) (f := (fun s : Int32 × Int32 × Int32 × Mm => bd_X11_years_37  s.1 s.2.1 s.2.2.1 s.2.2.2)) (dd := (fun s : Int32 × Int32 × Int32 × Mm => (0, s.2.2.2))) (fun s : Int32 × Int32 × Int32 × Mm => s.2.2.2) (fun r : Int32 × Mm => r.2) (fun _ => rfl) key FU s
set_option maxRecDepth 20000 in
set_option maxHeartbeats 400000 in
theorem fr_X11_years (p0 : Int32) (p1 : Int32) (μ : Mm) : Fr [10, 11, 12, 13, 14, 17, 27, 28, 45, 8, 9] μ (e_X11_years p0 p1 μ) := by
  unfold e_X11_years
  refine Fr.ite ?_ ?_
  · exact Fr.rfl
  · refine Fr.ite ?_ ?_
    · refine lt_ (P := fun z => Fr [10, 11, 12, 13, 14, 17, 27, 28, 45, 8, 9] μ z) ((e_X1_become 8 1 μ)) (fun μ4 : Mm => (let μ5 : Mm := (e_X0_start p0 μ4); (let r7 : Int32 × Mm := whl (fun s : Int32 × Int32 × Int32 × Mm => bd_X11_years_37  s.1 s.2.1 s.2.2.1 s.2.2.2) (fun s : Int32 × Int32 × Int32 × Mm => (0, s.2.2.2)) FU (p1, 0, 0, μ5); (let μ8 : Mm := (e_X10_begin  (r7.2)); (let μ10 : Mm := (e_X10_add (Int32.toInt64 (r7.1)) μ8); (let μ12 : Mm := (e_X10_add (Int32.toInt64 (v_X1_present 8 μ10)) μ10); μ12)))))) (fun μ4 eμ4 => ?_)
      have fμ4 : Fr [10, 11, 12, 13, 14, 17, 27, 28, 45, 8, 9] μ μ4 := by
        rw [eμ4]
        exact (Fr.call Fr.rfl (fr_X1_become 8 1 μ) (by simp))
      refine lt_ (P := fun z => Fr [10, 11, 12, 13, 14, 17, 27, 28, 45, 8, 9] μ z) ((e_X0_start p0 μ4)) (fun μ5 : Mm => (let r7 : Int32 × Mm := whl (fun s : Int32 × Int32 × Int32 × Mm => bd_X11_years_37  s.1 s.2.1 s.2.2.1 s.2.2.2) (fun s : Int32 × Int32 × Int32 × Mm => (0, s.2.2.2)) FU (p1, 0, 0, μ5); (let μ8 : Mm := (e_X10_begin  (r7.2)); (let μ10 : Mm := (e_X10_add (Int32.toInt64 (r7.1)) μ8); (let μ12 : Mm := (e_X10_add (Int32.toInt64 (v_X1_present 8 μ10)) μ10); μ12))))) (fun μ5 eμ5 => ?_)
      have fμ5 : Fr [10, 11, 12, 13, 14, 17, 27, 28, 45, 8, 9] μ μ5 := by
        rw [eμ5]
        exact (Fr.call fμ4 (fr_X0_start p0 μ4) (by simp))
      refine lt_ (P := fun z => Fr [10, 11, 12, 13, 14, 17, 27, 28, 45, 8, 9] μ z) (whl (fun s : Int32 × Int32 × Int32 × Mm => bd_X11_years_37  s.1 s.2.1 s.2.2.1 s.2.2.2) (fun s : Int32 × Int32 × Int32 × Mm => (0, s.2.2.2)) FU (p1, 0, 0, μ5)) (fun r7 : Int32 × Mm => (let μ8 : Mm := (e_X10_begin  (r7.2)); (let μ10 : Mm := (e_X10_add (Int32.toInt64 (r7.1)) μ8); (let μ12 : Mm := (e_X10_add (Int32.toInt64 (v_X1_present 8 μ10)) μ10); μ12)))) (fun r7 er7 => ?_)
      have fr7 : Fr [10, 11, 12, 13, 14, 17, 27, 28, 45, 8, 9] μ (r7.2) := by
        rw [er7]
        exact Fr.call fμ5 (fw_X11_years_37  _) (by simp)
      refine lt_ (P := fun z => Fr [10, 11, 12, 13, 14, 17, 27, 28, 45, 8, 9] μ z) ((e_X10_begin  (r7.2))) (fun μ8 : Mm => (let μ10 : Mm := (e_X10_add (Int32.toInt64 (r7.1)) μ8); (let μ12 : Mm := (e_X10_add (Int32.toInt64 (v_X1_present 8 μ10)) μ10); μ12))) (fun μ8 eμ8 => ?_)
      have fμ8 : Fr [10, 11, 12, 13, 14, 17, 27, 28, 45, 8, 9] μ μ8 := by
        rw [eμ8]
        exact (Fr.call fr7 (fr_X10_begin (r7.2)) (by simp))
      refine lt_ (P := fun z => Fr [10, 11, 12, 13, 14, 17, 27, 28, 45, 8, 9] μ z) ((e_X10_add (Int32.toInt64 (r7.1)) μ8)) (fun μ10 : Mm => (let μ12 : Mm := (e_X10_add (Int32.toInt64 (v_X1_present 8 μ10)) μ10); μ12)) (fun μ10 eμ10 => ?_)
      have fμ10 : Fr [10, 11, 12, 13, 14, 17, 27, 28, 45, 8, 9] μ μ10 := by
        rw [eμ10]
        exact (Fr.call fμ8 (fr_X10_add (Int32.toInt64 (r7.1)) μ8) (by simp))
      refine lt_ (P := fun z => Fr [10, 11, 12, 13, 14, 17, 27, 28, 45, 8, 9] μ z) ((e_X10_add (Int32.toInt64 (v_X1_present 8 μ10)) μ10)) (fun μ12 : Mm => μ12) (fun μ12 eμ12 => ?_)
      have fμ12 : Fr [10, 11, 12, 13, 14, 17, 27, 28, 45, 8, 9] μ μ12 := by
        rw [eμ12]
        exact (Fr.call fμ10 (fr_X10_add (Int32.toInt64 (v_X1_present 8 μ10)) μ10) (by simp))
      exact fμ12
    · exact Fr.rfl
set_option maxRecDepth 20000 in
set_option maxHeartbeats 400000 in
theorem fr_X11_law  (μ : Mm) : Fr [10, 11, 12, 13, 14, 17, 20, 21, 22, 23, 24, 25, 27, 28, 8, 9] μ (e_X11_law  μ) := by
  unfold e_X11_law
  refine lt_ (P := fun z => Fr [10, 11, 12, 13, 14, 17, 20, 21, 22, 23, 24, 25, 27, 28, 8, 9] μ z) ((e_X5_read 20 μ)) (fun μ2 : Mm => (let μ3 : Mm := (e_X9_clear  μ2); (if (v_X5_read 20 μ) = (-1) then (let μ6 : Mm := (e_X1_become 8 1 μ3); (let μ8 : Mm := (e_X1_goTillNoon 8 15 μ6); (let μ10 : Mm := (e_X1_become 8 1 μ8); (let μ12 : Mm := (e_X1_goTillNoon 8 20 μ10); (let μ13 : Mm := (e_X10_begin  μ12); (let μ15 : Mm := (e_X10_add (Int32.toInt64 (1 + (v_X11_direction (v_X1_goTillNoon 8 20 μ10)))) μ13); (let μ17 : Mm := (e_X10_add (Int32.toInt64 (1 + (v_X11_direction (v_X1_goTillNoon 8 15 μ6)))) μ15); (let μ19 : Mm := (e_X11_tellPlacesOfTrial  μ17); μ19)))))))) else μ3))) (fun μ2 eμ2 => ?_)
  have fμ2 : Fr [10, 11, 12, 13, 14, 17, 20, 21, 22, 23, 24, 25, 27, 28, 8, 9] μ μ2 := by
    rw [eμ2]
    exact (Fr.call Fr.rfl (fr_X5_read 20 μ) (by simp))
  refine lt_ (P := fun z => Fr [10, 11, 12, 13, 14, 17, 20, 21, 22, 23, 24, 25, 27, 28, 8, 9] μ z) ((e_X9_clear  μ2)) (fun μ3 : Mm => (if (v_X5_read 20 μ) = (-1) then (let μ6 : Mm := (e_X1_become 8 1 μ3); (let μ8 : Mm := (e_X1_goTillNoon 8 15 μ6); (let μ10 : Mm := (e_X1_become 8 1 μ8); (let μ12 : Mm := (e_X1_goTillNoon 8 20 μ10); (let μ13 : Mm := (e_X10_begin  μ12); (let μ15 : Mm := (e_X10_add (Int32.toInt64 (1 + (v_X11_direction (v_X1_goTillNoon 8 20 μ10)))) μ13); (let μ17 : Mm := (e_X10_add (Int32.toInt64 (1 + (v_X11_direction (v_X1_goTillNoon 8 15 μ6)))) μ15); (let μ19 : Mm := (e_X11_tellPlacesOfTrial  μ17); μ19)))))))) else μ3)) (fun μ3 eμ3 => ?_)
  have fμ3 : Fr [10, 11, 12, 13, 14, 17, 20, 21, 22, 23, 24, 25, 27, 28, 8, 9] μ μ3 := by
    rw [eμ3]
    exact (Fr.call fμ2 (fr_X9_clear μ2) (by simp))
  refine Fr.ite ?_ ?_
  · refine lt_ (P := fun z => Fr [10, 11, 12, 13, 14, 17, 20, 21, 22, 23, 24, 25, 27, 28, 8, 9] μ z) ((e_X1_become 8 1 μ3)) (fun μ6 : Mm => (let μ8 : Mm := (e_X1_goTillNoon 8 15 μ6); (let μ10 : Mm := (e_X1_become 8 1 μ8); (let μ12 : Mm := (e_X1_goTillNoon 8 20 μ10); (let μ13 : Mm := (e_X10_begin  μ12); (let μ15 : Mm := (e_X10_add (Int32.toInt64 (1 + (v_X11_direction (v_X1_goTillNoon 8 20 μ10)))) μ13); (let μ17 : Mm := (e_X10_add (Int32.toInt64 (1 + (v_X11_direction (v_X1_goTillNoon 8 15 μ6)))) μ15); (let μ19 : Mm := (e_X11_tellPlacesOfTrial  μ17); μ19)))))))) (fun μ6 eμ6 => ?_)
    have fμ6 : Fr [10, 11, 12, 13, 14, 17, 20, 21, 22, 23, 24, 25, 27, 28, 8, 9] μ μ6 := by
      rw [eμ6]
      exact (Fr.call fμ3 (fr_X1_become 8 1 μ3) (by simp))
    refine lt_ (P := fun z => Fr [10, 11, 12, 13, 14, 17, 20, 21, 22, 23, 24, 25, 27, 28, 8, 9] μ z) ((e_X1_goTillNoon 8 15 μ6)) (fun μ8 : Mm => (let μ10 : Mm := (e_X1_become 8 1 μ8); (let μ12 : Mm := (e_X1_goTillNoon 8 20 μ10); (let μ13 : Mm := (e_X10_begin  μ12); (let μ15 : Mm := (e_X10_add (Int32.toInt64 (1 + (v_X11_direction (v_X1_goTillNoon 8 20 μ10)))) μ13); (let μ17 : Mm := (e_X10_add (Int32.toInt64 (1 + (v_X11_direction (v_X1_goTillNoon 8 15 μ6)))) μ15); (let μ19 : Mm := (e_X11_tellPlacesOfTrial  μ17); μ19))))))) (fun μ8 eμ8 => ?_)
    have fμ8 : Fr [10, 11, 12, 13, 14, 17, 20, 21, 22, 23, 24, 25, 27, 28, 8, 9] μ μ8 := by
      rw [eμ8]
      exact (Fr.call fμ6 (fr_X1_goTillNoon 8 15 μ6) (by simp))
    refine lt_ (P := fun z => Fr [10, 11, 12, 13, 14, 17, 20, 21, 22, 23, 24, 25, 27, 28, 8, 9] μ z) ((e_X1_become 8 1 μ8)) (fun μ10 : Mm => (let μ12 : Mm := (e_X1_goTillNoon 8 20 μ10); (let μ13 : Mm := (e_X10_begin  μ12); (let μ15 : Mm := (e_X10_add (Int32.toInt64 (1 + (v_X11_direction (v_X1_goTillNoon 8 20 μ10)))) μ13); (let μ17 : Mm := (e_X10_add (Int32.toInt64 (1 + (v_X11_direction (v_X1_goTillNoon 8 15 μ6)))) μ15); (let μ19 : Mm := (e_X11_tellPlacesOfTrial  μ17); μ19)))))) (fun μ10 eμ10 => ?_)
    have fμ10 : Fr [10, 11, 12, 13, 14, 17, 20, 21, 22, 23, 24, 25, 27, 28, 8, 9] μ μ10 := by
      rw [eμ10]
      exact (Fr.call fμ8 (fr_X1_become 8 1 μ8) (by simp))
    refine lt_ (P := fun z => Fr [10, 11, 12, 13, 14, 17, 20, 21, 22, 23, 24, 25, 27, 28, 8, 9] μ z) ((e_X1_goTillNoon 8 20 μ10)) (fun μ12 : Mm => (let μ13 : Mm := (e_X10_begin  μ12); (let μ15 : Mm := (e_X10_add (Int32.toInt64 (1 + (v_X11_direction (v_X1_goTillNoon 8 20 μ10)))) μ13); (let μ17 : Mm := (e_X10_add (Int32.toInt64 (1 + (v_X11_direction (v_X1_goTillNoon 8 15 μ6)))) μ15); (let μ19 : Mm := (e_X11_tellPlacesOfTrial  μ17); μ19))))) (fun μ12 eμ12 => ?_)
    have fμ12 : Fr [10, 11, 12, 13, 14, 17, 20, 21, 22, 23, 24, 25, 27, 28, 8, 9] μ μ12 := by
      rw [eμ12]
      exact (Fr.call fμ10 (fr_X1_goTillNoon 8 20 μ10) (by simp))
    refine lt_ (P := fun z => Fr [10, 11, 12, 13, 14, 17, 20, 21, 22, 23, 24, 25, 27, 28, 8, 9] μ z) ((e_X10_begin  μ12)) (fun μ13 : Mm => (let μ15 : Mm := (e_X10_add (Int32.toInt64 (1 + (v_X11_direction (v_X1_goTillNoon 8 20 μ10)))) μ13); (let μ17 : Mm := (e_X10_add (Int32.toInt64 (1 + (v_X11_direction (v_X1_goTillNoon 8 15 μ6)))) μ15); (let μ19 : Mm := (e_X11_tellPlacesOfTrial  μ17); μ19)))) (fun μ13 eμ13 => ?_)
    have fμ13 : Fr [10, 11, 12, 13, 14, 17, 20, 21, 22, 23, 24, 25, 27, 28, 8, 9] μ μ13 := by
      rw [eμ13]
      exact (Fr.call fμ12 (fr_X10_begin μ12) (by simp))
    refine lt_ (P := fun z => Fr [10, 11, 12, 13, 14, 17, 20, 21, 22, 23, 24, 25, 27, 28, 8, 9] μ z) ((e_X10_add (Int32.toInt64 (1 + (v_X11_direction (v_X1_goTillNoon 8 20 μ10)))) μ13)) (fun μ15 : Mm => (let μ17 : Mm := (e_X10_add (Int32.toInt64 (1 + (v_X11_direction (v_X1_goTillNoon 8 15 μ6)))) μ15); (let μ19 : Mm := (e_X11_tellPlacesOfTrial  μ17); μ19))) (fun μ15 eμ15 => ?_)
    have fμ15 : Fr [10, 11, 12, 13, 14, 17, 20, 21, 22, 23, 24, 25, 27, 28, 8, 9] μ μ15 := by
      rw [eμ15]
      exact (Fr.call fμ13 (fr_X10_add (Int32.toInt64 (1 + (v_X11_direction (v_X1_goTillNoon 8 20 μ10)))) μ13) (by simp))
    refine lt_ (P := fun z => Fr [10, 11, 12, 13, 14, 17, 20, 21, 22, 23, 24, 25, 27, 28, 8, 9] μ z) ((e_X10_add (Int32.toInt64 (1 + (v_X11_direction (v_X1_goTillNoon 8 15 μ6)))) μ15)) (fun μ17 : Mm => (let μ19 : Mm := (e_X11_tellPlacesOfTrial  μ17); μ19)) (fun μ17 eμ17 => ?_)
    have fμ17 : Fr [10, 11, 12, 13, 14, 17, 20, 21, 22, 23, 24, 25, 27, 28, 8, 9] μ μ17 := by
      rw [eμ17]
      exact (Fr.call fμ15 (fr_X10_add (Int32.toInt64 (1 + (v_X11_direction (v_X1_goTillNoon 8 15 μ6)))) μ15) (by simp))
    refine lt_ (P := fun z => Fr [10, 11, 12, 13, 14, 17, 20, 21, 22, 23, 24, 25, 27, 28, 8, 9] μ z) ((e_X11_tellPlacesOfTrial  μ17)) (fun μ19 : Mm => μ19) (fun μ19 eμ19 => ?_)
    have fμ19 : Fr [10, 11, 12, 13, 14, 17, 20, 21, 22, 23, 24, 25, 27, 28, 8, 9] μ μ19 := by
      rw [eμ19]
      exact (Fr.call fμ17 (fr_X11_tellPlacesOfTrial μ17) (by simp))
    exact fμ19
  · exact fμ3
set_option maxRecDepth 20000 in
set_option maxHeartbeats 400000 in
theorem fr_X11_rule  (μ : Mm) : Fr [15, 16, 20, 21, 23, 24, 25] μ (e_X11_rule  μ) := by
  unfold e_X11_rule
  refine lt_ (P := fun z => Fr [15, 16, 20, 21, 23, 24, 25] μ z) ((e_X5_read 20 μ)) (fun μ2 : Mm => (let μ3 : Mm := (e_X9_clear  μ2); (if (v_X5_read 20 μ) = (-1) then (let μ6 : Mm := (e_X5_become 15 20 μ3); μ6) else μ3))) (fun μ2 eμ2 => ?_)
  have fμ2 : Fr [15, 16, 20, 21, 23, 24, 25] μ μ2 := by
    rw [eμ2]
    exact (Fr.call Fr.rfl (fr_X5_read 20 μ) (by simp))
  refine lt_ (P := fun z => Fr [15, 16, 20, 21, 23, 24, 25] μ z) ((e_X9_clear  μ2)) (fun μ3 : Mm => (if (v_X5_read 20 μ) = (-1) then (let μ6 : Mm := (e_X5_become 15 20 μ3); μ6) else μ3)) (fun μ3 eμ3 => ?_)
  have fμ3 : Fr [15, 16, 20, 21, 23, 24, 25] μ μ3 := by
    rw [eμ3]
    exact (Fr.call fμ2 (fr_X9_clear μ2) (by simp))
  refine Fr.ite ?_ ?_
  · refine lt_ (P := fun z => Fr [15, 16, 20, 21, 23, 24, 25] μ z) ((e_X5_become 15 20 μ3)) (fun μ6 : Mm => μ6) (fun μ6 eμ6 => ?_)
    have fμ6 : Fr [15, 16, 20, 21, 23, 24, 25] μ μ6 := by
      rw [eμ6]
      exact (Fr.call fμ3 (fr_X5_become 15 20 μ3) (by simp))
    exact fμ6
  · exact fμ3

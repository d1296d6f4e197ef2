/-! what stays of the memory behind each method; by program (wip/whole/frames.py) -/
def FrS {σ ρ : Type} (S : List Nat) (μ : Mm) (mi : σ → Mm) (mr : ρ → Mm) (x : σ ⊕ ρ) : Prop := match x with
  | .inl s => Fr S μ (mi s)
  | .inr r => Fr S μ (mr r)
theorem FrS.ite {σ ρ : Type} {S : List Nat} {μ : Mm} {mi : σ → Mm} {mr : ρ → Mm} {a b : σ ⊕ ρ} {c : Prop} [Decidable c] (ha : FrS S μ mi mr a) (hb : FrS S μ mi mr b) : FrS S μ mi mr (if c then a else b) := by
  by_cases h : c
  · rw [if_pos h]; exact ha
  · rw [if_neg h]; exact hb
theorem FrS.inl {σ ρ : Type} {S : List Nat} {μ : Mm} {mi : σ → Mm} {mr : ρ → Mm} {s : σ} (h : Fr S μ (mi s)) : FrS S μ mi mr (.inl s) := h
theorem FrS.inr {σ ρ : Type} {S : List Nat} {μ : Mm} {mi : σ → Mm} {mr : ρ → Mm} {r : ρ} (h : Fr S μ (mr r)) : FrS S μ mi mr (.inr r) := h
theorem Fr_whlK {σ ρ : Type} {S : List Nat} {f : σ → σ ⊕ ρ} {dd : σ → ρ} (mem : σ → Mm) (memr : ρ → Mm) (hd : ∀ s, memr (dd s) = mem s) (key : ∀ s, FrS S (mem s) mem memr (f s)) : ∀ (N : Nat) (s : σ), Fr S (mem s) (memr (whl f dd N s)) :=
  Fr_whl mem memr hd (fun s s' h => by have k := key s; rw [h] at k; exact k) (fun s r h => by have k := key s; rw [h] at k; exact k)
theorem lt_ {α β : Type} {P : β → Prop} (a : α) (f : α → β) (h : ∀ x, x = a → P (f x)) : P (f a) := h a rfl
set_option maxRecDepth 20000 in
set_option maxHeartbeats 400000 in
theorem fr_X0_below (p0 : Int32) (μ : Mm) : Fr [45] μ (e_X0_below p0 μ) := by
  unfold e_X0_below
  refine lt_ (P := fun z => Fr [45] μ z) ((upI μ 45 0 (((μ.1 45 0) * 1103515245) + 12345))) (fun μ1 : Mm => μ1) (fun μ1 eμ1 => ?_)
  have fμ1 : Fr [45] μ μ1 := by
    rw [eμ1]
    exact Fr.up Fr.rfl (by simp)
  exact fμ1
set_option maxRecDepth 20000 in
set_option maxHeartbeats 400000 in
theorem fr_X0_start (p0 : Int32) (μ : Mm) : Fr [45] μ (e_X0_start p0 μ) := by
  unfold e_X0_start
  refine lt_ (P := fun z => Fr [45] μ z) ((upI μ 45 0 p0)) (fun μ1 : Mm => μ1) (fun μ1 eμ1 => ?_)
  have fμ1 : Fr [45] μ μ1 := by
    rw [eμ1]
    exact Fr.up Fr.rfl (by simp)
  exact fμ1
set_option maxRecDepth 20000 in
set_option maxHeartbeats 400000 in
theorem fr_X10_add (p0 : Int64) (μ : Mm) : Fr [27, 28] μ (e_X10_add p0 μ) := by
  unfold e_X10_add
  refine lt_ (P := fun z => Fr [27, 28] μ z) ((if 16 ≤ (μ.1 27 1) then μ else ((upI ((upJ μ 28 (Int32.toNatClampNeg (μ.1 27 1)) p0)) 27 1 ((((upJ μ 28 (Int32.toNatClampNeg (μ.1 27 1)) p0)).1 27 1) + 1))) : Mm)) (fun μ5 : Mm => μ5) (fun μ5 eμ5 => ?_)
  have fμ5 : Fr [27, 28] μ μ5 := by
    rw [eμ5]
    repeat' (first | with_reducible assumption | with_reducible exact Fr.rfl | with_reducible refine Fr.ite ?_ ?_ | with_reducible refine Fr.up ?_ (by simp) | with_reducible refine Fr.upJ ?_ (by simp))
  exact fμ5
set_option maxRecDepth 20000 in
set_option maxHeartbeats 400000 in
theorem fr_X10_begin  (μ : Mm) : Fr [27] μ (e_X10_begin  μ) := by
  unfold e_X10_begin
  refine lt_ (P := fun z => Fr [27] μ z) ((upI μ 27 1 0)) (fun μ1 : Mm => μ1) (fun μ1 eμ1 => ?_)
  have fμ1 : Fr [27] μ μ1 := by
    rw [eμ1]
    exact Fr.up Fr.rfl (by simp)
  exact fμ1
set_option maxRecDepth 20000 in
set_option maxHeartbeats 400000 in
theorem fr_X11_denies  (μ : Mm) : Fr [42] μ (e_X11_denies  μ) := by
  unfold e_X11_denies
  refine lt_ (P := fun z => Fr [42] μ z) ((upI μ 42 2 0)) (fun μ1 : Mm => μ1) (fun μ1 eμ1 => ?_)
  have fμ1 : Fr [42] μ μ1 := by
    rw [eμ1]
    exact Fr.up Fr.rfl (by simp)
  exact fμ1
set_option maxRecDepth 20000 in
set_option maxHeartbeats 400000 in
theorem fr_X11_forget  (μ : Mm) : Fr [38] μ (e_X11_forget  μ) := by
  unfold e_X11_forget
  refine lt_ (P := fun z => Fr [38] μ z) ((upI μ 38 3 0)) (fun μ1 : Mm => μ1) (fun μ1 eμ1 => ?_)
  have fμ1 : Fr [38] μ μ1 := by
    rw [eμ1]
    exact Fr.up Fr.rfl (by simp)
  exact fμ1
set_option maxRecDepth 20000 in
set_option maxHeartbeats 400000 in
theorem fr_X12_becomes (p0 : Int32) (p1 : Int32) (p2 : Int32) (μ : Mm) : Fr [52] μ (e_X12_becomes p0 p1 p2 μ) := by
  unfold e_X12_becomes
  refine lt_ (P := fun z => Fr [52] μ z) ((upI μ 52 (Int32.toNatClampNeg p0) p1)) (fun μ3 : Mm => μ3) (fun μ3 eμ3 => ?_)
  have fμ3 : Fr [52] μ μ3 := by
    rw [eμ3]
    exact Fr.up Fr.rfl (by simp)
  exact fμ3
set_option maxRecDepth 20000 in
set_option maxHeartbeats 400000 in
theorem fr_X12_codes (p0 : Int32) (μ : Mm) : Fr [49, 58] μ (e_X12_codes p0 μ) := by
  unfold e_X12_codes
  refine lt_ (P := fun z => Fr [49, 58] μ z) ((upI μ 58 (Int32.toNatClampNeg (μ.1 49 20)) p0)) (fun μ2 : Mm => (let μ3 : Mm := (upI μ2 49 20 ((μ2.1 49 20) + 1)); μ3)) (fun μ2 eμ2 => ?_)
  have fμ2 : Fr [49, 58] μ μ2 := by
    rw [eμ2]
    exact Fr.up Fr.rfl (by simp)
  refine lt_ (P := fun z => Fr [49, 58] μ z) ((upI μ2 49 20 ((μ2.1 49 20) + 1))) (fun μ3 : Mm => μ3) (fun μ3 eμ3 => ?_)
  have fμ3 : Fr [49, 58] μ μ3 := by
    rw [eμ3]
    exact Fr.up fμ2 (by simp)
  exact fμ3
set_option maxRecDepth 20000 in
set_option maxHeartbeats 400000 in
theorem fr_X12_denies  (μ : Mm) : Fr [49] μ (e_X12_denies  μ) := by
  unfold e_X12_denies
  refine lt_ (P := fun z => Fr [49] μ z) ((upI μ 49 0 0)) (fun μ1 : Mm => (let μ2 : Mm := (upI μ1 49 36 0); μ2)) (fun μ1 eμ1 => ?_)
  have fμ1 : Fr [49] μ μ1 := by
    rw [eμ1]
    exact Fr.up Fr.rfl (by simp)
  refine lt_ (P := fun z => Fr [49] μ z) ((upI μ1 49 36 0)) (fun μ2 : Mm => μ2) (fun μ2 eμ2 => ?_)
  have fμ2 : Fr [49] μ μ2 := by
    rw [eμ2]
    exact Fr.up fμ1 (by simp)
  exact fμ2
set_option maxRecDepth 20000 in
set_option maxHeartbeats 400000 in
theorem fr_X12_draws (p0 : Int32) (μ : Mm) : Fr [49] μ (e_X12_draws p0 μ) := by
  unfold e_X12_draws
  refine lt_ (P := fun z => Fr [49] μ z) ((upI μ 49 41 (((μ.1 49 41) * 1103515245) + 12345))) (fun μ1 : Mm => μ1) (fun μ1 eμ1 => ?_)
  have fμ1 : Fr [49] μ μ1 := by
    rw [eμ1]
    exact Fr.up Fr.rfl (by simp)
  exact fμ1
set_option maxRecDepth 20000 in
set_option maxHeartbeats 400000 in
theorem fr_X12_enters (p0 : Int64) (μ : Mm) : Fr [49, 50] μ (e_X12_enters p0 μ) := by
  unfold e_X12_enters
  refine lt_ (P := fun z => Fr [49, 50] μ z) ((upJ μ 50 (Int32.toNatClampNeg (μ.1 49 1)) p0)) (fun μ2 : Mm => (let μ3 : Mm := (upI μ2 49 1 ((μ2.1 49 1) + 1)); μ3)) (fun μ2 eμ2 => ?_)
  have fμ2 : Fr [49, 50] μ μ2 := by
    rw [eμ2]
    exact Fr.upJ Fr.rfl (by simp)
  refine lt_ (P := fun z => Fr [49, 50] μ z) ((upI μ2 49 1 ((μ2.1 49 1) + 1))) (fun μ3 : Mm => μ3) (fun μ3 eμ3 => ?_)
  have fμ3 : Fr [49, 50] μ μ3 := by
    rw [eμ3]
    exact Fr.up fμ2 (by simp)
  exact fμ3
set_option maxRecDepth 20000 in
set_option maxHeartbeats 400000 in
theorem fr_X12_forget  (μ : Mm) : Fr [49] μ (e_X12_forget  μ) := by
  unfold e_X12_forget
  refine lt_ (P := fun z => Fr [49] μ z) ((upI μ 49 0 0)) (fun μ1 : Mm => (let μ2 : Mm := (upI μ1 49 31 0); μ2)) (fun μ1 eμ1 => ?_)
  have fμ1 : Fr [49] μ μ1 := by
    rw [eμ1]
    exact Fr.up Fr.rfl (by simp)
  refine lt_ (P := fun z => Fr [49] μ z) ((upI μ1 49 31 0)) (fun μ2 : Mm => μ2) (fun μ2 eμ2 => ?_)
  have fμ2 : Fr [49] μ μ2 := by
    rw [eμ2]
    exact Fr.up fμ1 (by simp)
  exact fμ2
set_option maxRecDepth 20000 in
set_option maxHeartbeats 400000 in
theorem fr_X12_refuse  (μ : Mm) : Fr [49] μ (e_X12_refuse  μ) := by
  unfold e_X12_refuse
  refine lt_ (P := fun z => Fr [49] μ z) ((upI μ 49 0 1)) (fun μ1 : Mm => μ1) (fun μ1 eμ1 => ?_)
  have fμ1 : Fr [49] μ μ1 := by
    rw [eμ1]
    exact Fr.up Fr.rfl (by simp)
  exact fμ1
set_option maxRecDepth 20000 in
set_option maxHeartbeats 400000 in
theorem fr_X1_join (b : Nat) (p0 : Int32) (p1 : Int32) (μ : Mm) : Fr [(b + 1), (b + 2), (b + 3), (b + 4), b] μ (e_X1_join b p0 p1 μ) := by
  unfold e_X1_join
  refine lt_ (P := fun z => Fr [(b + 1), (b + 2), (b + 3), (b + 4), b] μ z) ((if 7 ≤ (μ.1 b 0) then μ else ((upI ((upI ((upI ((upI ((upI ((upI μ (b + 1) (Int32.toNatClampNeg (μ.1 b 0)) p0)) (b + 2) (Int32.toNatClampNeg (((upI μ (b + 1) (Int32.toNatClampNeg (μ.1 b 0)) p0)).1 b 0)) p1)) (b + 3) (Int32.toNatClampNeg (((upI ((upI μ (b + 1) (Int32.toNatClampNeg (μ.1 b 0)) p0)) (b + 2) (Int32.toNatClampNeg (((upI μ (b + 1) (Int32.toNatClampNeg (μ.1 b 0)) p0)).1 b 0)) p1)).1 b 0)) 0)) (b + 4) (Int32.toNatClampNeg (((upI ((upI ((upI μ (b + 1) (Int32.toNatClampNeg (μ.1 b 0)) p0)) (b + 2) (Int32.toNatClampNeg (((upI μ (b + 1) (Int32.toNatClampNeg (μ.1 b 0)) p0)).1 b 0)) p1)) (b + 3) (Int32.toNatClampNeg (((upI ((upI μ (b + 1) (Int32.toNatClampNeg (μ.1 b 0)) p0)) (b + 2) (Int32.toNatClampNeg (((upI μ (b + 1) (Int32.toNatClampNeg (μ.1 b 0)) p0)).1 b 0)) p1)).1 b 0)) 0)).1 b 0)) 0)) b 5 ((((upI ((upI ((upI ((upI μ (b + 1) (Int32.toNatClampNeg (μ.1 b 0)) p0)) (b + 2) (Int32.toNatClampNeg (((upI μ (b + 1) (Int32.toNatClampNeg (μ.1 b 0)) p0)).1 b 0)) p1)) (b + 3) (Int32.toNatClampNeg (((upI ((upI μ (b + 1) (Int32.toNatClampNeg (μ.1 b 0)) p0)) (b + 2) (Int32.toNatClampNeg (((upI μ (b + 1) (Int32.toNatClampNeg (μ.1 b 0)) p0)).1 b 0)) p1)).1 b 0)) 0)) (b + 4) (Int32.toNatClampNeg (((upI ((upI ((upI μ (b + 1) (Int32.toNatClampNeg (μ.1 b 0)) p0)) (b + 2) (Int32.toNatClampNeg (((upI μ (b + 1) (Int32.toNatClampNeg (μ.1 b 0)) p0)).1 b 0)) p1)) (b + 3) (Int32.toNatClampNeg (((upI ((upI μ (b + 1) (Int32.toNatClampNeg (μ.1 b 0)) p0)) (b + 2) (Int32.toNatClampNeg (((upI μ (b + 1) (Int32.toNatClampNeg (μ.1 b 0)) p0)).1 b 0)) p1)).1 b 0)) 0)).1 b 0)) 0)).1 b 5) &&& ((1 <<< ((((upI ((upI ((upI ((upI μ (b + 1) (Int32.toNatClampNeg (μ.1 b 0)) p0)) (b + 2) (Int32.toNatClampNeg (((upI μ (b + 1) (Int32.toNatClampNeg (μ.1 b 0)) p0)).1 b 0)) p1)) (b + 3) (Int32.toNatClampNeg (((upI ((upI μ (b + 1) (Int32.toNatClampNeg (μ.1 b 0)) p0)) (b + 2) (Int32.toNatClampNeg (((upI μ (b + 1) (Int32.toNatClampNeg (μ.1 b 0)) p0)).1 b 0)) p1)).1 b 0)) 0)) (b + 4) (Int32.toNatClampNeg (((upI ((upI ((upI μ (b + 1) (Int32.toNatClampNeg (μ.1 b 0)) p0)) (b + 2) (Int32.toNatClampNeg (((upI μ (b + 1) (Int32.toNatClampNeg (μ.1 b 0)) p0)).1 b 0)) p1)) (b + 3) (Int32.toNatClampNeg (((upI ((upI μ (b + 1) (Int32.toNatClampNeg (μ.1 b 0)) p0)) (b + 2) (Int32.toNatClampNeg (((upI μ (b + 1) (Int32.toNatClampNeg (μ.1 b 0)) p0)).1 b 0)) p1)).1 b 0)) 0)).1 b 0)) 0)).1 b 0) &&& 31)) ^^^ (-1))))) b 0 ((((upI ((upI ((upI ((upI ((upI μ (b + 1) (Int32.toNatClampNeg (μ.1 b 0)) p0)) (b + 2) (Int32.toNatClampNeg (((upI μ (b + 1) (Int32.toNatClampNeg (μ.1 b 0)) p0)).1 b 0)) p1)) (b + 3) (Int32.toNatClampNeg (((upI ((upI μ (b + 1) (Int32.toNatClampNeg (μ.1 b 0)) p0)) (b + 2) (Int32.toNatClampNeg (((upI μ (b + 1) (Int32.toNatClampNeg (μ.1 b 0)) p0)).1 b 0)) p1)).1 b 0)) 0)) (b + 4) (Int32.toNatClampNeg (((upI ((upI ((upI μ (b + 1) (Int32.toNatClampNeg (μ.1 b 0)) p0)) (b + 2) (Int32.toNatClampNeg (((upI μ (b + 1) (Int32.toNatClampNeg (μ.1 b 0)) p0)).1 b 0)) p1)) (b + 3) (Int32.toNatClampNeg (((upI ((upI μ (b + 1) (Int32.toNatClampNeg (μ.1 b 0)) p0)) (b + 2) (Int32.toNatClampNeg (((upI μ (b + 1) (Int32.toNatClampNeg (μ.1 b 0)) p0)).1 b 0)) p1)).1 b 0)) 0)).1 b 0)) 0)) b 5 ((((upI ((upI ((upI ((upI μ (b + 1) (Int32.toNatClampNeg (μ.1 b 0)) p0)) (b + 2) (Int32.toNatClampNeg (((upI μ (b + 1) (Int32.toNatClampNeg (μ.1 b 0)) p0)).1 b 0)) p1)) (b + 3) (Int32.toNatClampNeg (((upI ((upI μ (b + 1) (Int32.toNatClampNeg (μ.1 b 0)) p0)) (b + 2) (Int32.toNatClampNeg (((upI μ (b + 1) (Int32.toNatClampNeg (μ.1 b 0)) p0)).1 b 0)) p1)).1 b 0)) 0)) (b + 4) (Int32.toNatClampNeg (((upI ((upI ((upI μ (b + 1) (Int32.toNatClampNeg (μ.1 b 0)) p0)) (b + 2) (Int32.toNatClampNeg (((upI μ (b + 1) (Int32.toNatClampNeg (μ.1 b 0)) p0)).1 b 0)) p1)) (b + 3) (Int32.toNatClampNeg (((upI ((upI μ (b + 1) (Int32.toNatClampNeg (μ.1 b 0)) p0)) (b + 2) (Int32.toNatClampNeg (((upI μ (b + 1) (Int32.toNatClampNeg (μ.1 b 0)) p0)).1 b 0)) p1)).1 b 0)) 0)).1 b 0)) 0)).1 b 5) &&& ((1 <<< ((((upI ((upI ((upI ((upI μ (b + 1) (Int32.toNatClampNeg (μ.1 b 0)) p0)) (b + 2) (Int32.toNatClampNeg (((upI μ (b + 1) (Int32.toNatClampNeg (μ.1 b 0)) p0)).1 b 0)) p1)) (b + 3) (Int32.toNatClampNeg (((upI ((upI μ (b + 1) (Int32.toNatClampNeg (μ.1 b 0)) p0)) (b + 2) (Int32.toNatClampNeg (((upI μ (b + 1) (Int32.toNatClampNeg (μ.1 b 0)) p0)).1 b 0)) p1)).1 b 0)) 0)) (b + 4) (Int32.toNatClampNeg (((upI ((upI ((upI μ (b + 1) (Int32.toNatClampNeg (μ.1 b 0)) p0)) (b + 2) (Int32.toNatClampNeg (((upI μ (b + 1) (Int32.toNatClampNeg (μ.1 b 0)) p0)).1 b 0)) p1)) (b + 3) (Int32.toNatClampNeg (((upI ((upI μ (b + 1) (Int32.toNatClampNeg (μ.1 b 0)) p0)) (b + 2) (Int32.toNatClampNeg (((upI μ (b + 1) (Int32.toNatClampNeg (μ.1 b 0)) p0)).1 b 0)) p1)).1 b 0)) 0)).1 b 0)) 0)).1 b 0) &&& 31)) ^^^ (-1))))).1 b 0) + 1))) : Mm)) (fun μ12 : Mm => μ12) (fun μ12 eμ12 => ?_)
  have fμ12 : Fr [(b + 1), (b + 2), (b + 3), (b + 4), b] μ μ12 := by
    rw [eμ12]
    repeat' (first | with_reducible assumption | with_reducible exact Fr.rfl | with_reducible refine Fr.ite ?_ ?_ | with_reducible refine Fr.up ?_ (by simp) | with_reducible refine Fr.upJ ?_ (by simp))
  exact fμ12
set_option maxRecDepth 20000 in
set_option maxHeartbeats 400000 in
theorem fr_X1_setNoon (b : Nat) (p0 : Int32) (μ : Mm) : Fr [b] μ (e_X1_setNoon b p0 μ) := by
  unfold e_X1_setNoon
  refine Fr.ite ?_ ?_
  · exact Fr.rfl
  · refine Fr.ite ?_ ?_
    · refine lt_ (P := fun z => Fr [b] μ z) ((upI μ b 7 p0)) (fun μ3 : Mm => μ3) (fun μ3 eμ3 => ?_)
      have fμ3 : Fr [b] μ μ3 := by
        rw [eμ3]
        exact Fr.up Fr.rfl (by simp)
      exact fμ3
    · exact Fr.rfl
set_option maxRecDepth 20000 in
set_option maxHeartbeats 400000 in
theorem fr_X2_add (p0 : Int32) (p1 : Int32) (μ : Mm) : Fr [42, 43, 44] μ (e_X2_add p0 p1 μ) := by
  unfold e_X2_add
  refine Fr.ite ?_ ?_
  · refine lt_ (P := fun z => Fr [42, 43, 44] μ z) ((upI μ 43 (Int32.toNatClampNeg (μ.1 42 2)) p0)) (fun μ3 : Mm => (let μ5 : Mm := (upI μ3 44 (Int32.toNatClampNeg (μ3.1 42 2)) p1); (let μ6 : Mm := (upI μ5 42 2 ((μ5.1 42 2) + 1)); μ6))) (fun μ3 eμ3 => ?_)
    have fμ3 : Fr [42, 43, 44] μ μ3 := by
      rw [eμ3]
      exact Fr.up Fr.rfl (by simp)
    refine lt_ (P := fun z => Fr [42, 43, 44] μ z) ((upI μ3 44 (Int32.toNatClampNeg (μ3.1 42 2)) p1)) (fun μ5 : Mm => (let μ6 : Mm := (upI μ5 42 2 ((μ5.1 42 2) + 1)); μ6)) (fun μ5 eμ5 => ?_)
    have fμ5 : Fr [42, 43, 44] μ μ5 := by
      rw [eμ5]
      exact Fr.up fμ3 (by simp)
    refine lt_ (P := fun z => Fr [42, 43, 44] μ z) ((upI μ5 42 2 ((μ5.1 42 2) + 1))) (fun μ6 : Mm => μ6) (fun μ6 eμ6 => ?_)
    have fμ6 : Fr [42, 43, 44] μ μ6 := by
      rw [eμ6]
      exact Fr.up fμ5 (by simp)
    exact fμ6
  · exact Fr.rfl
set_option maxRecDepth 20000 in
set_option maxHeartbeats 400000 in
theorem fr_X4_clear (b : Nat) (μ : Mm) : Fr [b] μ (e_X4_clear b μ) := by
  unfold e_X4_clear
  refine lt_ (P := fun z => Fr [b] μ z) ((upI μ b 1 0)) (fun μ1 : Mm => μ1) (fun μ1 eμ1 => ?_)
  have fμ1 : Fr [b] μ μ1 := by
    rw [eμ1]
    exact Fr.up Fr.rfl (by simp)
  exact fμ1
set_option maxRecDepth 20000 in
set_option maxHeartbeats 400000 in
theorem fr_X4_pop (b : Nat) (μ : Mm) : Fr [b] μ (e_X4_pop b μ) := by
  unfold e_X4_pop
  refine Fr.ite ?_ ?_
  · exact Fr.rfl
  · refine lt_ (P := fun z => Fr [b] μ z) ((upI μ b 1 ((μ.1 b 1) - 1))) (fun μ2 : Mm => μ2) (fun μ2 eμ2 => ?_)
    have fμ2 : Fr [b] μ μ2 := by
      rw [eμ2]
      exact Fr.up Fr.rfl (by simp)
    exact fμ2
set_option maxRecDepth 20000 in
set_option maxHeartbeats 400000 in
theorem fr_X4_push (b : Nat) (p0 : Int32) (μ : Mm) : Fr [(b + 1), b] μ (e_X4_push b p0 μ) := by
  unfold e_X4_push
  refine lt_ (P := fun z => Fr [(b + 1), b] μ z) ((if (Int32.ofNat 41) ≤ (μ.1 b 1) then μ else ((upI ((upI μ (b + 1) (Int32.toNatClampNeg (μ.1 b 1)) p0)) b 1 ((((upI μ (b + 1) (Int32.toNatClampNeg (μ.1 b 1)) p0)).1 b 1) + 1))) : Mm)) (fun μ5 : Mm => μ5) (fun μ5 eμ5 => ?_)
  have fμ5 : Fr [(b + 1), b] μ μ5 := by
    rw [eμ5]
    repeat' (first | with_reducible assumption | with_reducible exact Fr.rfl | with_reducible refine Fr.ite ?_ ?_ | with_reducible refine Fr.up ?_ (by simp) | with_reducible refine Fr.upJ ?_ (by simp))
  exact fμ5
set_option maxRecDepth 20000 in
set_option maxHeartbeats 400000 in
theorem fr_X5_emit (b : Nat) (p0 : Int32) (μ : Mm) : Fr [(b + 1), b] μ (e_X5_emit b p0 μ) := by
  unfold e_X5_emit
  refine lt_ (P := fun z => Fr [(b + 1), b] μ z) ((if (Int32.ofNat 41) ≤ (μ.1 b 1) then μ else ((upI ((upI μ (b + 1) (Int32.toNatClampNeg (μ.1 b 1)) p0)) b 1 ((((upI μ (b + 1) (Int32.toNatClampNeg (μ.1 b 1)) p0)).1 b 1) + 1))) : Mm)) (fun μ5 : Mm => μ5) (fun μ5 eμ5 => ?_)
  have fμ5 : Fr [(b + 1), b] μ μ5 := by
    rw [eμ5]
    repeat' (first | with_reducible assumption | with_reducible exact Fr.rfl | with_reducible refine Fr.ite ?_ ?_ | with_reducible refine Fr.up ?_ (by simp) | with_reducible refine Fr.upJ ?_ (by simp))
  exact fμ5
set_option maxRecDepth 20000 in
set_option maxHeartbeats 400000 in
theorem fr_X5_takeDigit (b : Nat) (p0 : Int32) (μ : Mm) : Fr [(b + 1), b] μ (e_X5_takeDigit b p0 μ) := by
  unfold e_X5_takeDigit
  refine Fr.ite ?_ ?_
  · exact Fr.rfl
  · refine Fr.ite ?_ ?_
    · exact Fr.rfl
    · refine Fr.ite ?_ ?_
      · refine lt_ (P := fun z => Fr [(b + 1), b] μ z) ((upI μ (b + 1) (Int32.toNatClampNeg ((μ.1 b 1) - 1)) ((10 * (μ.1 (b + 1) (Int32.toNatClampNeg ((μ.1 b 1) - 1)))) + p0))) (fun μ6 : Mm => (let μ7 : Mm := (upI μ6 b 8 ((μ6.1 b 8) + 1)); μ7)) (fun μ6 eμ6 => ?_)
        have fμ6 : Fr [(b + 1), b] μ μ6 := by
          rw [eμ6]
          exact Fr.up Fr.rfl (by simp)
        refine lt_ (P := fun z => Fr [(b + 1), b] μ z) ((upI μ6 b 8 ((μ6.1 b 8) + 1))) (fun μ7 : Mm => μ7) (fun μ7 eμ7 => ?_)
        have fμ7 : Fr [(b + 1), b] μ μ7 := by
          rw [eμ7]
          exact Fr.up fμ6 (by simp)
        exact fμ7
      · exact Fr.rfl
set_option maxRecDepth 20000 in
set_option maxHeartbeats 400000 in
theorem fr_X6_add (p0 : Int32) (p1 : Int32) (p2 : Int32) (μ : Mm) : Fr [38, 39, 40, 41] μ (e_X6_add p0 p1 p2 μ) := by
  unfold e_X6_add
  refine Fr.ite ?_ ?_
  · refine lt_ (P := fun z => Fr [38, 39, 40, 41] μ z) ((upI μ 39 (Int32.toNatClampNeg (μ.1 38 3)) p0)) (fun μ3 : Mm => (let μ5 : Mm := (upI μ3 40 (Int32.toNatClampNeg (μ3.1 38 3)) p1); (let μ7 : Mm := (upI μ5 41 (Int32.toNatClampNeg (μ5.1 38 3)) p2); (let μ8 : Mm := (upI μ7 38 3 ((μ7.1 38 3) + 1)); μ8)))) (fun μ3 eμ3 => ?_)
    have fμ3 : Fr [38, 39, 40, 41] μ μ3 := by
      rw [eμ3]
      exact Fr.up Fr.rfl (by simp)
    refine lt_ (P := fun z => Fr [38, 39, 40, 41] μ z) ((upI μ3 40 (Int32.toNatClampNeg (μ3.1 38 3)) p1)) (fun μ5 : Mm => (let μ7 : Mm := (upI μ5 41 (Int32.toNatClampNeg (μ5.1 38 3)) p2); (let μ8 : Mm := (upI μ7 38 3 ((μ7.1 38 3) + 1)); μ8))) (fun μ5 eμ5 => ?_)
    have fμ5 : Fr [38, 39, 40, 41] μ μ5 := by
      rw [eμ5]
      exact Fr.up fμ3 (by simp)
    refine lt_ (P := fun z => Fr [38, 39, 40, 41] μ z) ((upI μ5 41 (Int32.toNatClampNeg (μ5.1 38 3)) p2)) (fun μ7 : Mm => (let μ8 : Mm := (upI μ7 38 3 ((μ7.1 38 3) + 1)); μ8)) (fun μ7 eμ7 => ?_)
    have fμ7 : Fr [38, 39, 40, 41] μ μ7 := by
      rw [eμ7]
      exact Fr.up fμ5 (by simp)
    refine lt_ (P := fun z => Fr [38, 39, 40, 41] μ z) ((upI μ7 38 3 ((μ7.1 38 3) + 1))) (fun μ8 : Mm => μ8) (fun μ8 eμ8 => ?_)
    have fμ8 : Fr [38, 39, 40, 41] μ μ8 := by
      rw [eμ8]
      exact Fr.up fμ7 (by simp)
    exact fμ8
  · exact Fr.rfl
set_option maxRecDepth 20000 in
set_option maxHeartbeats 400000 in
theorem fr_X8_start (p0 : Int32) (p1 : Int32) (μ : Mm) : Fr [33] μ (e_X8_start p0 p1 μ) := by
  unfold e_X8_start
  refine lt_ (P := fun z => Fr [33] μ z) ((upI μ 33 1 p0)) (fun μ1 : Mm => (let μ2 : Mm := (upI μ1 33 2 p1); μ2)) (fun μ1 eμ1 => ?_)
  have fμ1 : Fr [33] μ μ1 := by
    rw [eμ1]
    exact Fr.up Fr.rfl (by simp)
  refine lt_ (P := fun z => Fr [33] μ z) ((upI μ1 33 2 p1)) (fun μ2 : Mm => μ2) (fun μ2 eμ2 => ?_)
  have fμ2 : Fr [33] μ μ2 := by
    rw [eμ2]
    exact Fr.up fμ1 (by simp)
  exact fμ2
set_option maxRecDepth 20000 in
set_option maxHeartbeats 400000 in
theorem fr_X9_clear  (μ : Mm) : Fr [25] μ (e_X9_clear  μ) := by
  unfold e_X9_clear
  refine lt_ (P := fun z => Fr [25] μ z) ((upI μ 25 1 0)) (fun μ1 : Mm => μ1) (fun μ1 eμ1 => ?_)
  have fμ1 : Fr [25] μ μ1 := by
    rw [eμ1]
    exact Fr.up Fr.rfl (by simp)
  exact fμ1
set_option maxRecDepth 20000 in
set_option maxHeartbeats 400000 in
theorem fr_X9_cut (p0 : Int32) (μ : Mm) : Fr [25] μ (e_X9_cut p0 μ) := by
  unfold e_X9_cut
  refine Fr.ite ?_ ?_
  · exact Fr.rfl
  · refine Fr.ite ?_ ?_
    · refine lt_ (P := fun z => Fr [25] μ z) ((upI μ 25 1 p0)) (fun μ3 : Mm => μ3) (fun μ3 eμ3 => ?_)
      have fμ3 : Fr [25] μ μ3 := by
        rw [eμ3]
        exact Fr.up Fr.rfl (by simp)
      exact fμ3
    · exact Fr.rfl
set_option maxRecDepth 20000 in
set_option maxHeartbeats 400000 in
theorem fr_X11_end (p0 : Int32) (μ : Mm) : Fr [25] μ (e_X11_end p0 μ) := by
  unfold e_X11_end
  refine lt_ (P := fun z => Fr [25] μ z) ((e_X9_cut p0 μ)) (fun μ1 : Mm => μ1) (fun μ1 eμ1 => ?_)
  have fμ1 : Fr [25] μ μ1 := by
    rw [eμ1]
    exact Fr.call Fr.rfl (fr_X9_cut p0 μ) (by simp)
  exact fμ1
set_option maxRecDepth 20000 in
set_option maxHeartbeats 400000 in
theorem fr_X11_heard (p0 : Int32) (p1 : Int32) (μ : Mm) : Fr [42, 43, 44] μ (e_X11_heard p0 p1 μ) := by
  unfold e_X11_heard
  refine Fr.ite ?_ ?_
  · exact Fr.rfl
  · refine lt_ (P := fun z => Fr [42, 43, 44] μ z) ((e_X2_add p0 p1 μ)) (fun μ3 : Mm => μ3) (fun μ3 eμ3 => ?_)
    have fμ3 : Fr [42, 43, 44] μ μ3 := by
      rw [eμ3]
      exact Fr.call Fr.rfl (fr_X2_add p0 p1 μ) (by simp)
    exact fμ3
set_option maxRecDepth 20000 in
set_option maxHeartbeats 400000 in
theorem fr_X11_seen (p0 : Int32) (p1 : Int32) (p2 : Int32) (μ : Mm) : Fr [38, 39, 40, 41] μ (e_X11_seen p0 p1 p2 μ) := by
  unfold e_X11_seen
  refine Fr.ite ?_ ?_
  · exact Fr.rfl
  · refine Fr.ite ?_ ?_
    · exact Fr.rfl
    · refine Fr.ite ?_ ?_
      · exact Fr.rfl
      · refine Fr.ite ?_ ?_
        · exact Fr.rfl
        · refine Fr.ite ?_ ?_
          · refine lt_ (P := fun z => Fr [38, 39, 40, 41] μ z) ((e_X6_add p0 p1 p2 μ)) (fun μ7 : Mm => μ7) (fun μ7 eμ7 => ?_)
            have fμ7 : Fr [38, 39, 40, 41] μ μ7 := by
              rw [eμ7]
              exact Fr.call Fr.rfl (fr_X6_add p0 p1 p2 μ) (by simp)
            exact fμ7
          · exact Fr.rfl
set_option maxRecDepth 20000 in
set_option maxHeartbeats 400000 in
theorem fr_X12_begins (p0 : Int32) (μ : Mm) : Fr [49] μ (e_X12_begins p0 μ) := by
  unfold e_X12_begins
  refine lt_ (P := fun z => Fr [49] μ z) ((upI μ 49 9 0)) (fun μ1 : Mm => (let μ2 : Mm := (upI μ1 49 10 0); (let μ3 : Mm := (upI μ2 49 12 0); (let μ4 : Mm := (upI μ3 49 11 (if p0 < (μ.1 49 9) then p0 else (μ.1 49 9))); μ4)))) (fun μ1 eμ1 => ?_)
  have fμ1 : Fr [49] μ μ1 := by
    rw [eμ1]
    exact Fr.up Fr.rfl (by simp)
  refine lt_ (P := fun z => Fr [49] μ z) ((upI μ1 49 10 0)) (fun μ2 : Mm => (let μ3 : Mm := (upI μ2 49 12 0); (let μ4 : Mm := (upI μ3 49 11 (if p0 < (μ.1 49 9) then p0 else (μ.1 49 9))); μ4))) (fun μ2 eμ2 => ?_)
  have fμ2 : Fr [49] μ μ2 := by
    rw [eμ2]
    exact Fr.up fμ1 (by simp)
  refine lt_ (P := fun z => Fr [49] μ z) ((upI μ2 49 12 0)) (fun μ3 : Mm => (let μ4 : Mm := (upI μ3 49 11 (if p0 < (μ.1 49 9) then p0 else (μ.1 49 9))); μ4)) (fun μ3 eμ3 => ?_)
  have fμ3 : Fr [49] μ μ3 := by
    rw [eμ3]
    exact Fr.up fμ2 (by simp)
  refine lt_ (P := fun z => Fr [49] μ z) ((upI μ3 49 11 (if p0 < (μ.1 49 9) then p0 else (μ.1 49 9)))) (fun μ4 : Mm => μ4) (fun μ4 eμ4 => ?_)
  have fμ4 : Fr [49] μ μ4 := by
    rw [eμ4]
    exact Fr.up fμ3 (by simp)
  exact fμ4
set_option maxRecDepth 20000 in
set_option maxHeartbeats 400000 in
theorem fr_X12_digitIn (p0 : Int32) (p1 : Int32) (μ : Mm) : Fr [49] μ (e_X12_digitIn p0 p1 μ) := by
  unfold e_X12_digitIn
  refine Fr.ite ?_ ?_
  · exact Fr.rfl
  · refine Fr.ite ?_ ?_
    · exact Fr.rfl
    · refine lt_ (P := fun z => Fr [49] μ z) ((upI μ 49 10 ((μ.1 49 10) + 1))) (fun μ4 : Mm => μ4) (fun μ4 eμ4 => ?_)
      have fμ4 : Fr [49] μ μ4 := by
        rw [eμ4]
        exact Fr.up Fr.rfl (by simp)
      exact fμ4
set_option maxRecDepth 20000 in
set_option maxHeartbeats 400000 in
theorem fr_X12_end (p0 : Int32) (μ : Mm) : Fr [49] μ (e_X12_end p0 μ) := by
  unfold e_X12_end
  refine lt_ (P := fun z => Fr [49] μ z) ((upI μ 49 0 0)) (fun μ1 : Mm => (if (v_X12_in (Int32.toInt64 p0) 0 (Int32.toInt64 (μ1.1 49 9))) = 0 then μ1 else (let μ3 : Mm := (upI μ1 49 9 p0); μ3))) (fun μ1 eμ1 => ?_)
  have fμ1 : Fr [49] μ μ1 := by
    rw [eμ1]
    exact Fr.up Fr.rfl (by simp)
  refine Fr.ite ?_ ?_
  · exact fμ1
  · refine lt_ (P := fun z => Fr [49] μ z) ((upI μ1 49 9 p0)) (fun μ3 : Mm => μ3) (fun μ3 eμ3 => ?_)
    have fμ3 : Fr [49] μ μ3 := by
      rw [eμ3]
      exact Fr.up fμ1 (by simp)
    exact fμ3
set_option maxRecDepth 20000 in
set_option maxHeartbeats 400000 in
theorem fr_X12_entersFewest (p0 : Int32) (μ : Mm) : Fr [49, 50] μ (e_X12_entersFewest p0 μ) := by
  unfold e_X12_entersFewest
  refine Fr.ite ?_ ?_
  · refine lt_ (P := fun z => Fr [49, 50] μ z) ((upI μ 49 1 0)) (fun μ2 : Mm => (let μ4 : Mm := (e_X12_enters (Int32.toInt64 p0) μ2); μ4)) (fun μ2 eμ2 => ?_)
    have fμ2 : Fr [49, 50] μ μ2 := by
      rw [eμ2]
      exact Fr.up Fr.rfl (by simp)
    refine lt_ (P := fun z => Fr [49, 50] μ z) ((e_X12_enters (Int32.toInt64 p0) μ2)) (fun μ4 : Mm => μ4) (fun μ4 eμ4 => ?_)
    have fμ4 : Fr [49, 50] μ μ4 := by
      rw [eμ4]
      exact Fr.call fμ2 (fr_X12_enters (Int32.toInt64 p0) μ2) (by simp)
    exact fμ4
  · exact Fr.rfl
set_option maxRecDepth 20000 in
set_option maxHeartbeats 400000 in
theorem fr_X12_row (p0 : Int32) (μ : Mm) : Fr [49] μ (e_X12_row p0 μ) := by
  unfold e_X12_row
  refine lt_ (P := fun z => Fr [49] μ z) ((upI μ 49 0 0)) (fun μ1 : Mm => (if (v_X12_in (Int32.toInt64 p0) 0 (Int32.toInt64 ((μ1.1 49 1) - 1))) = 0 then (let μ3 : Mm := (upI μ1 49 0 1); μ3) else μ1)) (fun μ1 eμ1 => ?_)
  have fμ1 : Fr [49] μ μ1 := by
    rw [eμ1]
    exact Fr.up Fr.rfl (by simp)
  refine Fr.ite ?_ ?_
  · refine lt_ (P := fun z => Fr [49] μ z) ((upI μ1 49 0 1)) (fun μ3 : Mm => μ3) (fun μ3 eμ3 => ?_)
    have fμ3 : Fr [49] μ μ3 := by
      rw [eμ3]
      exact Fr.up fμ1 (by simp)
    exact fμ3
  · exact fμ1
set_option maxRecDepth 20000 in
set_option maxHeartbeats 400000 in
theorem fr_X12_takes (p0 : Int32) (μ : Mm) : Fr [49] μ (e_X12_takes p0 μ) := by
  unfold e_X12_takes
  refine lt_ (P := fun z => Fr [49] μ z) ((upI μ 49 10 ((μ.1 49 10) + (v_X12_flag (if (μ.1 49 11) ≤ (μ.1 49 10) then 0 else (if (μ.1 54 (Int32.toNatClampNeg (μ.1 49 10))) = p0 then 1 else 0 : Int32) : Int32))))) (fun μ5 : Mm => μ5) (fun μ5 eμ5 => ?_)
  have fμ5 : Fr [49] μ μ5 := by
    rw [eμ5]
    exact Fr.up Fr.rfl (by simp)
  exact fμ5
set_option maxRecDepth 20000 in
set_option maxHeartbeats 400000 in
theorem fr_X1_burden (b : Nat) (p0 : Int32) (p1 : Int32) (μ : Mm) : Fr [(b + 4)] μ (e_X1_burden b p0 p1 μ) := by
  unfold e_X1_burden
  refine Fr.ite ?_ ?_
  · exact Fr.rfl
  · refine Fr.ite ?_ ?_
    · exact Fr.rfl
    · refine Fr.ite ?_ ?_
      · refine lt_ (P := fun z => Fr [(b + 4)] μ z) ((upI μ (b + 4) (Int32.toNatClampNeg p0) p1)) (fun μ6 : Mm => μ6) (fun μ6 eμ6 => ?_)
        have fμ6 : Fr [(b + 4)] μ μ6 := by
          rw [eμ6]
          exact Fr.up Fr.rfl (by simp)
        exact fμ6
      · exact Fr.rfl
set_option maxRecDepth 20000 in
set_option maxHeartbeats 400000 in
theorem fr_X1_lead (b : Nat) (p0 : Int32) (p1 : Int32) (μ : Mm) : Fr [(b + 3)] μ (e_X1_lead b p0 p1 μ) := by
  unfold e_X1_lead
  refine Fr.ite ?_ ?_
  · exact Fr.rfl
  · refine Fr.ite ?_ ?_
    · exact Fr.rfl
    · refine Fr.ite ?_ ?_
      · refine lt_ (P := fun z => Fr [(b + 3)] μ z) ((upI μ (b + 3) (Int32.toNatClampNeg p0) p1)) (fun μ6 : Mm => μ6) (fun μ6 eμ6 => ?_)
        have fμ6 : Fr [(b + 3)] μ μ6 := by
          rw [eμ6]
          exact Fr.up Fr.rfl (by simp)
        exact fμ6
      · exact Fr.rfl
set_option maxRecDepth 20000 in
set_option maxHeartbeats 400000 in
theorem fr_X1_stepOffOrOn (b : Nat) (p0 : Int32) (μ : Mm) : Fr [b] μ (e_X1_stepOffOrOn b p0 μ) := by
  unfold e_X1_stepOffOrOn
  refine Fr.ite ?_ ?_
  · exact Fr.rfl
  · refine lt_ (P := fun z => Fr [b] μ z) ((upI μ b 5 ((μ.1 b 5) ^^^ (1 <<< (p0 &&& 31))))) (fun μ2 : Mm => μ2) (fun μ2 eμ2 => ?_)
    have fμ2 : Fr [b] μ μ2 := by
      rw [eμ2]
      exact Fr.up Fr.rfl (by simp)
    exact fμ2
set_option maxRecDepth 20000 in
set_option maxHeartbeats 400000 in
theorem fr_X1_turn (b : Nat) (p0 : Int32) (p1 : Int32) (μ : Mm) : Fr [(b + 2)] μ (e_X1_turn b p0 p1 μ) := by
  unfold e_X1_turn
  refine Fr.ite ?_ ?_
  · exact Fr.rfl
  · refine Fr.ite ?_ ?_
    · exact Fr.rfl
    · refine Fr.ite ?_ ?_
      · refine lt_ (P := fun z => Fr [(b + 2)] μ z) ((upI μ (b + 2) (Int32.toNatClampNeg p0) p1)) (fun μ6 : Mm => μ6) (fun μ6 eμ6 => ?_)
        have fμ6 : Fr [(b + 2)] μ μ6 := by
          rw [eμ6]
          exact Fr.up Fr.rfl (by simp)
        exact fμ6
      · exact Fr.rfl
set_option maxRecDepth 20000 in
set_option maxHeartbeats 400000 in
theorem fr_X3_commit  (μ : Mm) : Fr [29] μ (e_X3_commit  μ) := by
  unfold e_X3_commit
  refine lt_ (P := fun z => Fr [29] μ z) ((upI μ 29 1 (((μ.1 29 1) + 1) - ((μ.1 29 1) + 1) / 16 * 16))) (fun μ1 : Mm => (let μ2 : Mm := (upI μ1 29 2 (if 15 < ((μ1.1 29 2) + 1) then 15 else ((μ1.1 29 2) + 1))); μ2)) (fun μ1 eμ1 => ?_)
  have fμ1 : Fr [29] μ μ1 := by
    rw [eμ1]
    exact Fr.up Fr.rfl (by simp)
  refine lt_ (P := fun z => Fr [29] μ z) ((upI μ1 29 2 (if 15 < ((μ1.1 29 2) + 1) then 15 else ((μ1.1 29 2) + 1)))) (fun μ2 : Mm => μ2) (fun μ2 eμ2 => ?_)
  have fμ2 : Fr [29] μ μ2 := by
    rw [eμ2]
    exact Fr.up fμ1 (by simp)
  exact fμ2
set_option maxRecDepth 20000 in
set_option maxHeartbeats 400000 in
theorem fr_X5_becomeNone (b : Nat) (μ : Mm) : Fr [(b + 1), b] μ (e_X5_becomeNone b μ) := by
  unfold e_X5_becomeNone
  refine lt_ (P := fun z => Fr [(b + 1), b] μ z) ((e_X5_emit b (-1) μ)) (fun μ2 : Mm => (let μ4 : Mm := (e_X5_emit b (-2) μ2); (let μ6 : Mm := (e_X5_emit b (-45) μ4); μ6))) (fun μ2 eμ2 => ?_)
  have fμ2 : Fr [(b + 1), b] μ μ2 := by
    rw [eμ2]
    exact Fr.call Fr.rfl (fr_X5_emit b (-1) μ) (by simp)
  refine lt_ (P := fun z => Fr [(b + 1), b] μ z) ((e_X5_emit b (-2) μ2)) (fun μ4 : Mm => (let μ6 : Mm := (e_X5_emit b (-45) μ4); μ6)) (fun μ4 eμ4 => ?_)
  have fμ4 : Fr [(b + 1), b] μ μ4 := by
    rw [eμ4]
    exact Fr.call fμ2 (fr_X5_emit b (-2) μ2) (by simp)
  refine lt_ (P := fun z => Fr [(b + 1), b] μ z) ((e_X5_emit b (-45) μ4)) (fun μ6 : Mm => μ6) (fun μ6 eμ6 => ?_)
  have fμ6 : Fr [(b + 1), b] μ μ6 := by
    rw [eμ6]
    exact Fr.call fμ4 (fr_X5_emit b (-45) μ4) (by simp)
  exact fμ6
set_option maxRecDepth 20000 in
set_option maxHeartbeats 400000 in
theorem fr_X5_open (b : Nat) (μ : Mm) : Fr [(b + 3), (b + 4), b] μ (e_X5_open b μ) := by
  unfold e_X5_open
  refine Fr.ite ?_ ?_
  · refine lt_ (P := fun z => Fr [(b + 3), (b + 4), b] μ z) ((e_X4_push (b + 3) 40 μ)) (fun μ3 : Mm => (let μ4 : Mm := (upI μ3 b 6 ((μ3.1 b 6) + 1)); (let μ5 : Mm := (upI μ4 b 7 ((μ4.1 b 7) &&& ((1 <<< ((μ4.1 b 6) &&& 31)) ^^^ (-1)))); μ5))) (fun μ3 eμ3 => ?_)
    have fμ3 : Fr [(b + 3), (b + 4), b] μ μ3 := by
      rw [eμ3]
      exact Fr.call Fr.rfl (fr_X4_push (b + 3) 40 μ) (by simp)
    refine lt_ (P := fun z => Fr [(b + 3), (b + 4), b] μ z) ((upI μ3 b 6 ((μ3.1 b 6) + 1))) (fun μ4 : Mm => (let μ5 : Mm := (upI μ4 b 7 ((μ4.1 b 7) &&& ((1 <<< ((μ4.1 b 6) &&& 31)) ^^^ (-1)))); μ5)) (fun μ4 eμ4 => ?_)
    have fμ4 : Fr [(b + 3), (b + 4), b] μ μ4 := by
      rw [eμ4]
      exact Fr.up fμ3 (by simp)
    refine lt_ (P := fun z => Fr [(b + 3), (b + 4), b] μ z) ((upI μ4 b 7 ((μ4.1 b 7) &&& ((1 <<< ((μ4.1 b 6) &&& 31)) ^^^ (-1))))) (fun μ5 : Mm => μ5) (fun μ5 eμ5 => ?_)
    have fμ5 : Fr [(b + 3), (b + 4), b] μ μ5 := by
      rw [eμ5]
      exact Fr.up fμ4 (by simp)
    exact fμ5
  · exact Fr.rfl
set_option maxRecDepth 20000 in
set_option maxHeartbeats 400000 in
theorem fr_X5_startReading (b : Nat) (μ : Mm) : Fr [(b + 3), b] μ (e_X5_startReading b μ) := by
  unfold e_X5_startReading
  refine lt_ (P := fun z => Fr [(b + 3), b] μ z) ((upI μ b 1 0)) (fun μ1 : Mm => (let μ2 : Mm := (upI μ1 b 2 0); (let μ3 : Mm := (e_X4_clear (b + 3) μ2); (let μ4 : Mm := (upI μ3 b 5 1); (let μ5 : Mm := (upI μ4 b 6 0); (let μ6 : Mm := (upI μ5 b 7 0); (let μ7 : Mm := (upI μ6 b 8 0); μ7))))))) (fun μ1 eμ1 => ?_)
  have fμ1 : Fr [(b + 3), b] μ μ1 := by
    rw [eμ1]
    exact Fr.up Fr.rfl (by simp)
  refine lt_ (P := fun z => Fr [(b + 3), b] μ z) ((upI μ1 b 2 0)) (fun μ2 : Mm => (let μ3 : Mm := (e_X4_clear (b + 3) μ2); (let μ4 : Mm := (upI μ3 b 5 1); (let μ5 : Mm := (upI μ4 b 6 0); (let μ6 : Mm := (upI μ5 b 7 0); (let μ7 : Mm := (upI μ6 b 8 0); μ7)))))) (fun μ2 eμ2 => ?_)
  have fμ2 : Fr [(b + 3), b] μ μ2 := by
    rw [eμ2]
    exact Fr.up fμ1 (by simp)
  refine lt_ (P := fun z => Fr [(b + 3), b] μ z) ((e_X4_clear (b + 3) μ2)) (fun μ3 : Mm => (let μ4 : Mm := (upI μ3 b 5 1); (let μ5 : Mm := (upI μ4 b 6 0); (let μ6 : Mm := (upI μ5 b 7 0); (let μ7 : Mm := (upI μ6 b 8 0); μ7))))) (fun μ3 eμ3 => ?_)
  have fμ3 : Fr [(b + 3), b] μ μ3 := by
    rw [eμ3]
    exact Fr.call fμ2 (fr_X4_clear (b + 3) μ2) (by simp)
  refine lt_ (P := fun z => Fr [(b + 3), b] μ z) ((upI μ3 b 5 1)) (fun μ4 : Mm => (let μ5 : Mm := (upI μ4 b 6 0); (let μ6 : Mm := (upI μ5 b 7 0); (let μ7 : Mm := (upI μ6 b 8 0); μ7)))) (fun μ4 eμ4 => ?_)
  have fμ4 : Fr [(b + 3), b] μ μ4 := by
    rw [eμ4]
    exact Fr.up fμ3 (by simp)
  refine lt_ (P := fun z => Fr [(b + 3), b] μ z) ((upI μ4 b 6 0)) (fun μ5 : Mm => (let μ6 : Mm := (upI μ5 b 7 0); (let μ7 : Mm := (upI μ6 b 8 0); μ7))) (fun μ5 eμ5 => ?_)
  have fμ5 : Fr [(b + 3), b] μ μ5 := by
    rw [eμ5]
    exact Fr.up fμ4 (by simp)
  refine lt_ (P := fun z => Fr [(b + 3), b] μ z) ((upI μ5 b 7 0)) (fun μ6 : Mm => (let μ7 : Mm := (upI μ6 b 8 0); μ7)) (fun μ6 eμ6 => ?_)
  have fμ6 : Fr [(b + 3), b] μ μ6 := by
    rw [eμ6]
    exact Fr.up fμ5 (by simp)
  refine lt_ (P := fun z => Fr [(b + 3), b] μ z) ((upI μ6 b 8 0)) (fun μ7 : Mm => μ7) (fun μ7 eμ7 => ?_)
  have fμ7 : Fr [(b + 3), b] μ μ7 := by
    rw [eμ7]
    exact Fr.up fμ6 (by simp)
  exact fμ7
set_option maxRecDepth 20000 in
set_option maxHeartbeats 400000 in
theorem fr_X11_committed (p0 : Int32) (μ : Mm) : Fr [29] μ (e_X11_committed p0 μ) := by
  unfold e_X11_committed
  refine lt_ (P := fun z => Fr [29] μ z) ((if p0 < 0 then μ else ((e_X3_commit  μ)) : Mm)) (fun μ3 : Mm => μ3) (fun μ3 eμ3 => ?_)
  have fμ3 : Fr [29] μ μ3 := by
    rw [eμ3]
    repeat' (first | with_reducible assumption | with_reducible exact Fr.rfl | with_reducible refine Fr.ite ?_ ?_ | with_reducible refine Fr.up ?_ (by simp) | with_reducible refine Fr.upJ ?_ (by simp) | with_reducible refine Fr.call ?_ (fr_X3_commit _) (by simp))
  exact fμ3
set_option maxRecDepth 20000 in
set_option maxHeartbeats 400000 in
theorem fr_X12_heard (p0 : Int32) (p1 : Int32) (μ : Mm) : Fr [49, 71, 72] μ (e_X12_heard p0 p1 μ) := by
  unfold e_X12_heard
  refine lt_ (P := fun z => Fr [49, 71, 72] μ z) ((upI μ 49 0 0)) (fun μ1 : Mm => (if (v_X12_in (Int32.toInt64 p0) 0 4) = 0 then μ1 else (if (v_X12_in (Int32.toInt64 p1) (Int32.toInt64 (v_X12_lowest p0)) (Int32.toInt64 (v_X12_highest p0))) = 0 then μ1 else (if (μ1.1 49 36) = 12 then μ1 else (let μ6 : Mm := (upI μ1 71 (Int32.toNatClampNeg (μ1.1 49 36)) p0); (let μ8 : Mm := (upI μ6 72 (Int32.toNatClampNeg (μ6.1 49 36)) p1); (let μ9 : Mm := (upI μ8 49 36 ((μ8.1 49 36) + 1)); μ9))))))) (fun μ1 eμ1 => ?_)
  have fμ1 : Fr [49, 71, 72] μ μ1 := by
    rw [eμ1]
    exact Fr.up Fr.rfl (by simp)
  refine Fr.ite ?_ ?_
  · exact fμ1
  · refine Fr.ite ?_ ?_
    · exact fμ1
    · refine Fr.ite ?_ ?_
      · exact fμ1
      · refine lt_ (P := fun z => Fr [49, 71, 72] μ z) ((upI μ1 71 (Int32.toNatClampNeg (μ1.1 49 36)) p0)) (fun μ6 : Mm => (let μ8 : Mm := (upI μ6 72 (Int32.toNatClampNeg (μ6.1 49 36)) p1); (let μ9 : Mm := (upI μ8 49 36 ((μ8.1 49 36) + 1)); μ9))) (fun μ6 eμ6 => ?_)
        have fμ6 : Fr [49, 71, 72] μ μ6 := by
          rw [eμ6]
          exact Fr.up fμ1 (by simp)
        refine lt_ (P := fun z => Fr [49, 71, 72] μ z) ((upI μ6 72 (Int32.toNatClampNeg (μ6.1 49 36)) p1)) (fun μ8 : Mm => (let μ9 : Mm := (upI μ8 49 36 ((μ8.1 49 36) + 1)); μ9)) (fun μ8 eμ8 => ?_)
        have fμ8 : Fr [49, 71, 72] μ μ8 := by
          rw [eμ8]
          exact Fr.up fμ6 (by simp)
        refine lt_ (P := fun z => Fr [49, 71, 72] μ z) ((upI μ8 49 36 ((μ8.1 49 36) + 1))) (fun μ9 : Mm => μ9) (fun μ9 eμ9 => ?_)
        have fμ9 : Fr [49, 71, 72] μ μ9 := by
          rw [eμ9]
          exact Fr.up fμ8 (by simp)
        exact fμ9
set_option maxRecDepth 20000 in
set_option maxHeartbeats 400000 in
theorem fr_X12_leadsTo (p0 : Int32) (p1 : Int32) (μ : Mm) : Fr [52] μ (e_X12_leadsTo p0 p1 μ) := by
  unfold e_X12_leadsTo
  refine Fr.ite ?_ ?_
  · exact Fr.rfl
  · refine Fr.ite ?_ ?_
    · exact Fr.rfl
    · refine lt_ (P := fun z => Fr [52] μ z) ((upI μ 52 (Int32.toNatClampNeg (7 + p0)) p1)) (fun μ5 : Mm => μ5) (fun μ5 eμ5 => ?_)
      have fμ5 : Fr [52] μ μ5 := by
        rw [eμ5]
        exact Fr.up Fr.rfl (by simp)
      exact fμ5
set_option maxRecDepth 20000 in
set_option maxHeartbeats 400000 in
theorem fr_X12_sacksTo (p0 : Int32) (p1 : Int32) (μ : Mm) : Fr [52] μ (e_X12_sacksTo p0 p1 μ) := by
  unfold e_X12_sacksTo
  refine lt_ (P := fun z => Fr [52] μ z) ((if (v_X12_isOne p0 μ) = 0 then μ else (if (v_X12_in (Int32.toInt64 p1) 0 9) = 0 then μ else ((e_X12_becomes (14 + p0) p1 0 μ)) : Mm) : Mm)) (fun μ5 : Mm => μ5) (fun μ5 eμ5 => ?_)
  have fμ5 : Fr [52] μ μ5 := by
    rw [eμ5]
    repeat' (first | with_reducible assumption | with_reducible exact Fr.rfl | with_reducible refine Fr.ite ?_ ?_ | with_reducible refine Fr.up ?_ (by simp) | with_reducible refine Fr.upJ ?_ (by simp) | with_reducible refine Fr.call ?_ (fr_X12_becomes _ _ _ _) (by simp))
  exact fμ5
set_option maxRecDepth 20000 in
set_option maxHeartbeats 400000 in
theorem fr_X12_seen (p0 : Int32) (p1 : Int32) (p2 : Int32) (μ : Mm) : Fr [49, 67, 68, 69] μ (e_X12_seen p0 p1 p2 μ) := by
  unfold e_X12_seen
  refine lt_ (P := fun z => Fr [49, 67, 68, 69] μ z) ((upI μ 49 0 0)) (fun μ1 : Mm => (if (v_X12_isOne p0 μ1) = 0 then μ1 else (if (v_X12_in (Int32.toInt64 p1) 0 20) = 0 then μ1 else (if (v_X12_in (Int32.toInt64 p2) (-9) 9) = 0 then μ1 else (if (μ1.1 49 31) = 10 then μ1 else (let μ7 : Mm := (upI μ1 67 (Int32.toNatClampNeg (μ1.1 49 31)) p0); (let μ9 : Mm := (upI μ7 68 (Int32.toNatClampNeg (μ7.1 49 31)) p1); (let μ11 : Mm := (upI μ9 69 (Int32.toNatClampNeg (μ9.1 49 31)) p2); (let μ12 : Mm := (upI μ11 49 31 ((μ11.1 49 31) + 1)); μ12))))))))) (fun μ1 eμ1 => ?_)
  have fμ1 : Fr [49, 67, 68, 69] μ μ1 := by
    rw [eμ1]
    exact Fr.up Fr.rfl (by simp)
  refine Fr.ite ?_ ?_
  · exact fμ1
  · refine Fr.ite ?_ ?_
    · exact fμ1
    · refine Fr.ite ?_ ?_
      · exact fμ1
      · refine Fr.ite ?_ ?_
        · exact fμ1
        · refine lt_ (P := fun z => Fr [49, 67, 68, 69] μ z) ((upI μ1 67 (Int32.toNatClampNeg (μ1.1 49 31)) p0)) (fun μ7 : Mm => (let μ9 : Mm := (upI μ7 68 (Int32.toNatClampNeg (μ7.1 49 31)) p1); (let μ11 : Mm := (upI μ9 69 (Int32.toNatClampNeg (μ9.1 49 31)) p2); (let μ12 : Mm := (upI μ11 49 31 ((μ11.1 49 31) + 1)); μ12)))) (fun μ7 eμ7 => ?_)
          have fμ7 : Fr [49, 67, 68, 69] μ μ7 := by
            rw [eμ7]
            exact Fr.up fμ1 (by simp)
          refine lt_ (P := fun z => Fr [49, 67, 68, 69] μ z) ((upI μ7 68 (Int32.toNatClampNeg (μ7.1 49 31)) p1)) (fun μ9 : Mm => (let μ11 : Mm := (upI μ9 69 (Int32.toNatClampNeg (μ9.1 49 31)) p2); (let μ12 : Mm := (upI μ11 49 31 ((μ11.1 49 31) + 1)); μ12))) (fun μ9 eμ9 => ?_)
          have fμ9 : Fr [49, 67, 68, 69] μ μ9 := by
            rw [eμ9]
            exact Fr.up fμ7 (by simp)
          refine lt_ (P := fun z => Fr [49, 67, 68, 69] μ z) ((upI μ9 69 (Int32.toNatClampNeg (μ9.1 49 31)) p2)) (fun μ11 : Mm => (let μ12 : Mm := (upI μ11 49 31 ((μ11.1 49 31) + 1)); μ12)) (fun μ11 eμ11 => ?_)
          have fμ11 : Fr [49, 67, 68, 69] μ μ11 := by
            rw [eμ11]
            exact Fr.up fμ9 (by simp)
          refine lt_ (P := fun z => Fr [49, 67, 68, 69] μ z) ((upI μ11 49 31 ((μ11.1 49 31) + 1))) (fun μ12 : Mm => μ12) (fun μ12 eμ12 => ?_)
          have fμ12 : Fr [49, 67, 68, 69] μ μ12 := by
            rw [eμ12]
            exact Fr.up fμ11 (by simp)
          exact fμ12
set_option maxRecDepth 20000 in
set_option maxHeartbeats 400000 in
theorem fr_X12_stepsOff (p0 : Nat) (p1 : Int32) (μ : Mm) : Fr [p0] μ (e_X12_stepsOff p0 p1 μ) := by
  unfold e_X12_stepsOff
  refine Fr.ite ?_ ?_
  · exact Fr.rfl
  · refine lt_ (P := fun z => Fr [p0] μ z) ((upI μ p0 (Int32.toNatClampNeg 21) ((μ.1 p0 (Int32.toNatClampNeg 21)) ^^^ (1 <<< (p1 &&& 31))))) (fun μ2 : Mm => μ2) (fun μ2 eμ2 => ?_)
    have fμ2 : Fr [p0] μ μ2 := by
      rw [eμ2]
      exact Fr.up Fr.rfl (by simp)
    exact fμ2
set_option maxRecDepth 20000 in
set_option maxHeartbeats 400000 in
theorem fr_X12_wishesTo (p0 : Int32) (p1 : Int32) (μ : Mm) : Fr [52] μ (e_X12_wishesTo p0 p1 μ) := by
  unfold e_X12_wishesTo
  refine lt_ (P := fun z => Fr [52] μ z) ((if (v_X12_isOne p0 μ) = 0 then μ else (if (v_X12_in (Int32.toInt64 p1) (-9) 9) = 0 then μ else ((e_X12_becomes p0 p1 100 μ)) : Mm) : Mm)) (fun μ5 : Mm => μ5) (fun μ5 eμ5 => ?_)
  have fμ5 : Fr [52] μ μ5 := by
    rw [eμ5]
    repeat' (first | with_reducible assumption | with_reducible exact Fr.rfl | with_reducible refine Fr.ite ?_ ?_ | with_reducible refine Fr.up ?_ (by simp) | with_reducible refine Fr.upJ ?_ (by simp) | with_reducible refine Fr.call ?_ (fr_X12_becomes _ _ _ _) (by simp))
  exact fμ5
set_option maxRecDepth 20000 in
set_option maxHeartbeats 400000 in
theorem fw_X12_adds_21  (s : Int32 × Int32 × Mm) : Fr [61] (s.2.2) ((whl (fun s : Int32 × Int32 × Mm => bd_X12_adds_21  s.1 s.2.1 s.2.2) (fun s : Int32 × Int32 × Mm => (0, s.2.2)) FU s).2) := by
  have key : ∀ s : Int32 × Int32 × Mm, FrS [61] (s.2.2) (fun s : Int32 × Int32 × Mm => s.2.2) (fun r : Int32 × Mm => r.2) ((fun s : Int32 × Int32 × Mm => bd_X12_adds_21  s.1 s.2.1 s.2.2) s) := by
    rintro ⟨x1, x2, μ⟩
    show FrS [61] μ (fun s : Int32 × Int32 × Mm => s.2.2) (fun r : Int32 × Mm => r.2) (bd_X12_adds_21  x1 x2 μ)
    unfold bd_X12_adds_21
    refine FrS.ite ?_ ?_
    · exact FrS.inr Fr.rfl
    · refine lt_ (P := fun z => FrS [61] μ (fun s : Int32 × Int32 × Mm => s.2.2) (fun r : Int32 × Mm => r.2) z) ((upI μ 61 (Int32.toNatClampNeg x2) (μ.1 61 (Int32.toNatClampNeg (x2 + 24))))) (fun μ4 : Mm => .inl (x1, (x2 + 1), μ4)) (fun μ4 eμ4 => ?_)
      have fμ4 : Fr [61] μ μ4 := by
        rw [eμ4]
        exact Fr.up Fr.rfl (by simp)
      exact FrS.inl fμ4
  exact Fr_whlK (S := [61]) (f := (fun s : Int32 × Int32 × Mm => bd_X12_adds_21  s.1 s.2.1 s.2.2)) (dd := (fun s : Int32 × Int32 × Mm => (0, s.2.2))) (fun s : Int32 × Int32 × Mm => s.2.2) (fun r : Int32 × Mm => r.2) (fun _ => rfl) key FU s
set_option maxRecDepth 20000 in
set_option maxHeartbeats 400000 in
theorem fr_X12_adds (p0 : Int32) (μ : Mm) : Fr [49, 61] μ (e_X12_adds p0 μ) := by
  unfold e_X12_adds
  refine lt_ (P := fun z => Fr [49, 61] μ z) ((upI μ 49 23 ((μ.1 49 23) + 1))) (fun μ1 : Mm => (let μ6 : Mm := (if (μ1.1 49 23) ≤ 15 then μ1 else ((upI ((whl (fun s : Int32 × Int32 × Mm => bd_X12_adds_21  s.1 s.2.1 s.2.2) (fun s : Int32 × Int32 × Mm => (0, s.2.2)) FU (p0, 0, μ1)).2) 49 23 ((((whl (fun s : Int32 × Int32 × Mm => bd_X12_adds_21  s.1 s.2.1 s.2.2) (fun s : Int32 × Int32 × Mm => (0, s.2.2)) FU (p0, 0, μ1)).2).1 49 23) - 1))) : Mm); μ6)) (fun μ1 eμ1 => ?_)
  have fμ1 : Fr [49, 61] μ μ1 := by
    rw [eμ1]
    exact Fr.up Fr.rfl (by simp)
  refine lt_ (P := fun z => Fr [49, 61] μ z) ((if (μ1.1 49 23) ≤ 15 then μ1 else ((upI ((whl (fun s : Int32 × Int32 × Mm => bd_X12_adds_21  s.1 s.2.1 s.2.2) (fun s : Int32 × Int32 × Mm => (0, s.2.2)) FU (p0, 0, μ1)).2) 49 23 ((((whl (fun s : Int32 × Int32 × Mm => bd_X12_adds_21  s.1 s.2.1 s.2.2) (fun s : Int32 × Int32 × Mm => (0, s.2.2)) FU (p0, 0, μ1)).2).1 49 23) - 1))) : Mm)) (fun μ6 : Mm => μ6) (fun μ6 eμ6 => ?_)
  have fμ6 : Fr [49, 61] μ μ6 := by
    rw [eμ6]
    repeat' (first | with_reducible assumption | with_reducible exact Fr.rfl | with_reducible refine Fr.ite ?_ ?_ | with_reducible refine Fr.up ?_ (by simp) | with_reducible refine Fr.upJ ?_ (by simp) | with_reducible refine Fr.call ?_ (fw_X12_adds_21  _) (by simp))
  exact fμ6
set_option maxRecDepth 20000 in
set_option maxHeartbeats 400000 in
theorem fw_X12_copies_2  (s : Int32 × Mm) : Fr [53] (s.2) ((whl (fun s : Int32 × Mm => bd_X12_copies_2  s.1 s.2) (fun s : Int32 × Mm => s.2) FU s)) := by
  have key : ∀ s : Int32 × Mm, FrS [53] (s.2) (fun s : Int32 × Mm => s.2) (fun r : Mm => r) ((fun s : Int32 × Mm => bd_X12_copies_2  s.1 s.2) s) := by
    rintro ⟨x1, μ⟩
    show FrS [53] μ (fun s : Int32 × Mm => s.2) (fun r : Mm => r) (bd_X12_copies_2  x1 μ)
    unfold bd_X12_copies_2
    refine FrS.ite ?_ ?_
    · exact FrS.inr Fr.rfl
    · refine lt_ (P := fun z => FrS [53] μ (fun s : Int32 × Mm => s.2) (fun r : Mm => r) z) ((upI μ 53 (Int32.toNatClampNeg x1) (μ.1 52 (Int32.toNatClampNeg x1)))) (fun μ4 : Mm => .inl ((x1 + 1), μ4)) (fun μ4 eμ4 => ?_)
      have fμ4 : Fr [53] μ μ4 := by
        rw [eμ4]
        exact Fr.up Fr.rfl (by simp)
      exact FrS.inl fμ4
  exact Fr_whlK (S := [53]) (f := (fun s : Int32 × Mm => bd_X12_copies_2  s.1 s.2)) (dd := (fun s : Int32 × Mm => s.2)) (fun s : Int32 × Mm => s.2) (fun r : Mm => r) (fun _ => rfl) key FU s
set_option maxRecDepth 20000 in
set_option maxHeartbeats 400000 in
theorem fr_X12_copies  (μ : Mm) : Fr [53] μ (e_X12_copies  μ) := by
  unfold e_X12_copies
  refine lt_ (P := fun z => Fr [53] μ z) (whl (fun s : Int32 × Mm => bd_X12_copies_2  s.1 s.2) (fun s : Int32 × Mm => s.2) FU (0, μ)) (fun r2 : Mm => r2) (fun r2 er2 => ?_)
  have fr2 : Fr [53] μ r2 := by
    rw [er2]
    exact Fr.call Fr.rfl (fw_X12_copies_2  _) (by simp)
  exact fr2
set_option maxRecDepth 20000 in
set_option maxHeartbeats 400000 in
theorem fw_X12_laysCode_7 (p0 : Nat) (s : Int32 × Int32 × Mm) : Fr [57] (s.2.2) ((whl (fun s : Int32 × Int32 × Mm => bd_X12_laysCode_7 p0 s.1 s.2.1 s.2.2) (fun s : Int32 × Int32 × Mm => s.2.2) FU s)) := by
  have key : ∀ s : Int32 × Int32 × Mm, FrS [57] (s.2.2) (fun s : Int32 × Int32 × Mm => s.2.2) (fun r : Mm => r) ((fun s : Int32 × Int32 × Mm => bd_X12_laysCode_7 p0 s.1 s.2.1 s.2.2) s) := by
    rintro ⟨x2, x3, μ⟩
    show FrS [57] μ (fun s : Int32 × Int32 × Mm => s.2.2) (fun r : Mm => r) (bd_X12_laysCode_7 p0 x2 x3 μ)
    unfold bd_X12_laysCode_7
    refine FrS.ite ?_ ?_
    · exact FrS.inr Fr.rfl
    · refine lt_ (P := fun z => FrS [57] μ (fun s : Int32 × Int32 × Mm => s.2.2) (fun r : Mm => r) z) ((upI μ 57 (Int32.toNatClampNeg x3) (μ.1 p0 (Int32.toNatClampNeg x3)))) (fun μ4 : Mm => .inl (x2, (x3 + 1), μ4)) (fun μ4 eμ4 => ?_)
      have fμ4 : Fr [57] μ μ4 := by
        rw [eμ4]
        exact Fr.up Fr.rfl (by simp)
      exact FrS.inl fμ4
  exact Fr_whlK (S := [57]) (f := (fun s : Int32 × Int32 × Mm => bd_X12_laysCode_7 p0 s.1 s.2.1 s.2.2)) (dd := (fun s : Int32 × Int32 × Mm => s.2.2)) (fun s : Int32 × Int32 × Mm => s.2.2) (fun r : Mm => r) (fun _ => rfl) key FU s
set_option maxRecDepth 20000 in
set_option maxHeartbeats 400000 in
theorem fr_X12_laysCode (p0 : Nat) (p1 : Int32) (μ : Mm) : Fr [49, 57] μ (e_X12_laysCode p0 p1 μ) := by
  unfold e_X12_laysCode
  refine lt_ (P := fun z => Fr [49, 57] μ z) ((upI μ 49 19 p1)) (fun μ1 : Mm => (let r3 : Mm := whl (fun s : Int32 × Int32 × Mm => bd_X12_laysCode_7 p0 s.1 s.2.1 s.2.2) (fun s : Int32 × Int32 × Mm => s.2.2) FU (p1, 0, μ1); r3)) (fun μ1 eμ1 => ?_)
  have fμ1 : Fr [49, 57] μ μ1 := by
    rw [eμ1]
    exact Fr.up Fr.rfl (by simp)
  refine lt_ (P := fun z => Fr [49, 57] μ z) (whl (fun s : Int32 × Int32 × Mm => bd_X12_laysCode_7 p0 s.1 s.2.1 s.2.2) (fun s : Int32 × Int32 × Mm => s.2.2) FU (p1, 0, μ1)) (fun r3 : Mm => r3) (fun r3 er3 => ?_)
  have fr3 : Fr [49, 57] μ r3 := by
    rw [er3]
    exact Fr.call fμ1 (fw_X12_laysCode_7 p0 _) (by simp)
  exact fr3
set_option maxRecDepth 20000 in
set_option maxHeartbeats 400000 in
theorem fw_X12_putsBy_2  (s : Int32 × Mm) : Fr [61] (s.2) ((whl (fun s : Int32 × Mm => bd_X12_putsBy_2  s.1 s.2) (fun s : Int32 × Mm => s.2) FU s)) := by
  have key : ∀ s : Int32 × Mm, FrS [61] (s.2) (fun s : Int32 × Mm => s.2) (fun r : Mm => r) ((fun s : Int32 × Mm => bd_X12_putsBy_2  s.1 s.2) s) := by
    rintro ⟨x1, μ⟩
    show FrS [61] μ (fun s : Int32 × Mm => s.2) (fun r : Mm => r) (bd_X12_putsBy_2  x1 μ)
    unfold bd_X12_putsBy_2
    refine FrS.ite ?_ ?_
    · exact FrS.inr Fr.rfl
    · refine lt_ (P := fun z => FrS [61] μ (fun s : Int32 × Mm => s.2) (fun r : Mm => r) z) ((upI μ 61 (Int32.toNatClampNeg ((24 * (μ.1 49 23)) + x1)) (μ.1 52 (Int32.toNatClampNeg x1)))) (fun μ4 : Mm => .inl ((x1 + 1), μ4)) (fun μ4 eμ4 => ?_)
      have fμ4 : Fr [61] μ μ4 := by
        rw [eμ4]
        exact Fr.up Fr.rfl (by simp)
      exact FrS.inl fμ4
  exact Fr_whlK (S := [61]) (f := (fun s : Int32 × Mm => bd_X12_putsBy_2  s.1 s.2)) (dd := (fun s : Int32 × Mm => s.2)) (fun s : Int32 × Mm => s.2) (fun r : Mm => r) (fun _ => rfl) key FU s
set_option maxRecDepth 20000 in
set_option maxHeartbeats 400000 in
theorem fr_X12_putsBy  (μ : Mm) : Fr [61] μ (e_X12_putsBy  μ) := by
  unfold e_X12_putsBy
  refine lt_ (P := fun z => Fr [61] μ z) (whl (fun s : Int32 × Mm => bd_X12_putsBy_2  s.1 s.2) (fun s : Int32 × Mm => s.2) FU (0, μ)) (fun r2 : Mm => r2) (fun r2 er2 => ?_)
  have fr2 : Fr [61] μ r2 := by
    rw [er2]
    exact Fr.call Fr.rfl (fw_X12_putsBy_2  _) (by simp)
  exact fr2
set_option maxRecDepth 20000 in
set_option maxHeartbeats 400000 in
theorem fw_X12_sign_18  (s : Int32 × Int32 × Mm) : Fr [54] (s.2.2) ((whl (fun s : Int32 × Int32 × Mm => bd_X12_sign_18  s.1 s.2.1 s.2.2) (fun s : Int32 × Int32 × Mm => s.2.2) FU s)) := by
  have key : ∀ s : Int32 × Int32 × Mm, FrS [54] (s.2.2) (fun s : Int32 × Int32 × Mm => s.2.2) (fun r : Mm => r) ((fun s : Int32 × Int32 × Mm => bd_X12_sign_18  s.1 s.2.1 s.2.2) s) := by
    rintro ⟨x1, x2, μ⟩
    show FrS [54] μ (fun s : Int32 × Int32 × Mm => s.2.2) (fun r : Mm => r) (bd_X12_sign_18  x1 x2 μ)
    unfold bd_X12_sign_18
    refine FrS.ite ?_ ?_
    · exact FrS.inr Fr.rfl
    · refine lt_ (P := fun z => FrS [54] μ (fun s : Int32 × Int32 × Mm => s.2.2) (fun r : Mm => r) z) ((upI μ 54 (Int32.toNatClampNeg ((μ.1 49 9) + x2)) ((x1 >>> ((24 - (8 * x2)) &&& 31)) &&& 255))) (fun μ3 : Mm => .inl (x1, (x2 + 1), μ3)) (fun μ3 eμ3 => ?_)
      have fμ3 : Fr [54] μ μ3 := by
        rw [eμ3]
        exact Fr.up Fr.rfl (by simp)
      exact FrS.inl fμ3
  exact Fr_whlK (S := [54]) (f := (fun s : Int32 × Int32 × Mm => bd_X12_sign_18  s.1 s.2.1 s.2.2)) (dd := (fun s : Int32 × Int32 × Mm => s.2.2)) (fun s : Int32 × Int32 × Mm => s.2.2) (fun r : Mm => r) (fun _ => rfl) key FU s
set_option maxRecDepth 20000 in
set_option maxHeartbeats 400000 in
theorem fr_X12_sign (p0 : Int32) (μ : Mm) : Fr [49, 54] μ (e_X12_sign p0 μ) := by
  unfold e_X12_sign
  refine lt_ (P := fun z => Fr [49, 54] μ z) ((upI μ 49 0 0)) (fun μ1 : Mm => (if (μ1.1 49 9) ≤ 76 then (let r4 : Mm := whl (fun s : Int32 × Int32 × Mm => bd_X12_sign_18  s.1 s.2.1 s.2.2) (fun s : Int32 × Int32 × Mm => s.2.2) FU (p0, 0, μ1); (let μ5 : Mm := (upI r4 49 9 ((r4.1 49 9) + 4)); μ5)) else μ1)) (fun μ1 eμ1 => ?_)
  have fμ1 : Fr [49, 54] μ μ1 := by
    rw [eμ1]
    exact Fr.up Fr.rfl (by simp)
  refine Fr.ite ?_ ?_
  · refine lt_ (P := fun z => Fr [49, 54] μ z) (whl (fun s : Int32 × Int32 × Mm => bd_X12_sign_18  s.1 s.2.1 s.2.2) (fun s : Int32 × Int32 × Mm => s.2.2) FU (p0, 0, μ1)) (fun r4 : Mm => (let μ5 : Mm := (upI r4 49 9 ((r4.1 49 9) + 4)); μ5)) (fun r4 er4 => ?_)
    have fr4 : Fr [49, 54] μ r4 := by
      rw [er4]
      exact Fr.call fμ1 (fw_X12_sign_18  _) (by simp)
    refine lt_ (P := fun z => Fr [49, 54] μ z) ((upI r4 49 9 ((r4.1 49 9) + 4))) (fun μ5 : Mm => μ5) (fun μ5 eμ5 => ?_)
    have fμ5 : Fr [49, 54] μ μ5 := by
      rw [eμ5]
      exact Fr.up fr4 (by simp)
    exact fμ5
  · exact fμ1
set_option maxRecDepth 20000 in
set_option maxHeartbeats 400000 in
theorem fw_X12_undo_26  (s : Int32 × Mm) : Fr [52] (s.2) ((whl (fun s : Int32 × Mm => bd_X12_undo_26  s.1 s.2) (fun s : Int32 × Mm => s.2) FU s)) := by
  have key : ∀ s : Int32 × Mm, FrS [52] (s.2) (fun s : Int32 × Mm => s.2) (fun r : Mm => r) ((fun s : Int32 × Mm => bd_X12_undo_26  s.1 s.2) s) := by
    rintro ⟨x1, μ⟩
    show FrS [52] μ (fun s : Int32 × Mm => s.2) (fun r : Mm => r) (bd_X12_undo_26  x1 μ)
    unfold bd_X12_undo_26
    refine FrS.ite ?_ ?_
    · exact FrS.inr Fr.rfl
    · refine lt_ (P := fun z => FrS [52] μ (fun s : Int32 × Mm => s.2) (fun r : Mm => r) z) ((upI μ 52 (Int32.toNatClampNeg x1) (μ.1 61 (Int32.toNatClampNeg ((24 * (μ.1 49 23)) + x1))))) (fun μ4 : Mm => .inl ((x1 + 1), μ4)) (fun μ4 eμ4 => ?_)
      have fμ4 : Fr [52] μ μ4 := by
        rw [eμ4]
        exact Fr.up Fr.rfl (by simp)
      exact FrS.inl fμ4
  exact Fr_whlK (S := [52]) (f := (fun s : Int32 × Mm => bd_X12_undo_26  s.1 s.2)) (dd := (fun s : Int32 × Mm => s.2)) (fun s : Int32 × Mm => s.2) (fun r : Mm => r) (fun _ => rfl) key FU s
set_option maxRecDepth 20000 in
set_option maxHeartbeats 400000 in
theorem fr_X12_undo  (μ : Mm) : Fr [49, 52] μ (e_X12_undo  μ) := by
  unfold e_X12_undo
  refine lt_ (P := fun z => Fr [49, 52] μ z) ((upI μ 49 0 0)) (fun μ1 : Mm => (if (μ1.1 49 23) = 0 then μ1 else (let μ3 : Mm := (upI μ1 49 23 ((μ1.1 49 23) - 1)); (let r5 : Mm := whl (fun s : Int32 × Mm => bd_X12_undo_26  s.1 s.2) (fun s : Int32 × Mm => s.2) FU (0, μ3); r5)))) (fun μ1 eμ1 => ?_)
  have fμ1 : Fr [49, 52] μ μ1 := by
    rw [eμ1]
    exact Fr.up Fr.rfl (by simp)
  refine Fr.ite ?_ ?_
  · exact fμ1
  · refine lt_ (P := fun z => Fr [49, 52] μ z) ((upI μ1 49 23 ((μ1.1 49 23) - 1))) (fun μ3 : Mm => (let r5 : Mm := whl (fun s : Int32 × Mm => bd_X12_undo_26  s.1 s.2) (fun s : Int32 × Mm => s.2) FU (0, μ3); r5)) (fun μ3 eμ3 => ?_)
    have fμ3 : Fr [49, 52] μ μ3 := by
      rw [eμ3]
      exact Fr.up fμ1 (by simp)
    refine lt_ (P := fun z => Fr [49, 52] μ z) (whl (fun s : Int32 × Mm => bd_X12_undo_26  s.1 s.2) (fun s : Int32 × Mm => s.2) FU (0, μ3)) (fun r5 : Mm => r5) (fun r5 er5 => ?_)
    have fr5 : Fr [49, 52] μ r5 := by
      rw [er5]
      exact Fr.call fμ3 (fw_X12_undo_26  _) (by simp)
    exact fr5
set_option maxRecDepth 20000 in
set_option maxHeartbeats 400000 in
theorem fw_X1_become_10 (b : Nat) (p0 : Nat) (s : Int32 × Mm) : Fr [(b + 1), (b + 2), (b + 3), (b + 4)] (s.2) ((whl (fun s : Int32 × Mm => bd_X1_become_10 b p0 s.1 s.2) (fun s : Int32 × Mm => s.2) FU s)) := by
  have key : ∀ s : Int32 × Mm, FrS [(b + 1), (b + 2), (b + 3), (b + 4)] (s.2) (fun s : Int32 × Mm => s.2) (fun r : Mm => r) ((fun s : Int32 × Mm => bd_X1_become_10 b p0 s.1 s.2) s) := by
    rintro ⟨x2, μ⟩
    show FrS [(b + 1), (b + 2), (b + 3), (b + 4)] μ (fun s : Int32 × Mm => s.2) (fun r : Mm => r) (bd_X1_become_10 b p0 x2 μ)
    unfold bd_X1_become_10
    refine FrS.ite ?_ ?_
    · exact FrS.inr Fr.rfl
    · refine lt_ (P := fun z => FrS [(b + 1), (b + 2), (b + 3), (b + 4)] μ (fun s : Int32 × Mm => s.2) (fun r : Mm => r) z) ((upI μ (b + 1) (Int32.toNatClampNeg x2) (μ.1 (p0 + 1) (Int32.toNatClampNeg x2)))) (fun μ4 : Mm => (let μ7 : Mm := (upI μ4 (b + 2) (Int32.toNatClampNeg x2) (μ4.1 (p0 + 2) (Int32.toNatClampNeg x2))); (let μ10 : Mm := (upI μ7 (b + 3) (Int32.toNatClampNeg x2) (μ7.1 (p0 + 3) (Int32.toNatClampNeg x2))); (let μ13 : Mm := (upI μ10 (b + 4) (Int32.toNatClampNeg x2) (μ10.1 (p0 + 4) (Int32.toNatClampNeg x2))); .inl ((x2 + 1), μ13))))) (fun μ4 eμ4 => ?_)
      have fμ4 : Fr [(b + 1), (b + 2), (b + 3), (b + 4)] μ μ4 := by
        rw [eμ4]
        exact Fr.up Fr.rfl (by simp)
      refine lt_ (P := fun z => FrS [(b + 1), (b + 2), (b + 3), (b + 4)] μ (fun s : Int32 × Mm => s.2) (fun r : Mm => r) z) ((upI μ4 (b + 2) (Int32.toNatClampNeg x2) (μ4.1 (p0 + 2) (Int32.toNatClampNeg x2)))) (fun μ7 : Mm => (let μ10 : Mm := (upI μ7 (b + 3) (Int32.toNatClampNeg x2) (μ7.1 (p0 + 3) (Int32.toNatClampNeg x2))); (let μ13 : Mm := (upI μ10 (b + 4) (Int32.toNatClampNeg x2) (μ10.1 (p0 + 4) (Int32.toNatClampNeg x2))); .inl ((x2 + 1), μ13)))) (fun μ7 eμ7 => ?_)
      have fμ7 : Fr [(b + 1), (b + 2), (b + 3), (b + 4)] μ μ7 := by
        rw [eμ7]
        exact Fr.up fμ4 (by simp)
      refine lt_ (P := fun z => FrS [(b + 1), (b + 2), (b + 3), (b + 4)] μ (fun s : Int32 × Mm => s.2) (fun r : Mm => r) z) ((upI μ7 (b + 3) (Int32.toNatClampNeg x2) (μ7.1 (p0 + 3) (Int32.toNatClampNeg x2)))) (fun μ10 : Mm => (let μ13 : Mm := (upI μ10 (b + 4) (Int32.toNatClampNeg x2) (μ10.1 (p0 + 4) (Int32.toNatClampNeg x2))); .inl ((x2 + 1), μ13))) (fun μ10 eμ10 => ?_)
      have fμ10 : Fr [(b + 1), (b + 2), (b + 3), (b + 4)] μ μ10 := by
        rw [eμ10]
        exact Fr.up fμ7 (by simp)
      refine lt_ (P := fun z => FrS [(b + 1), (b + 2), (b + 3), (b + 4)] μ (fun s : Int32 × Mm => s.2) (fun r : Mm => r) z) ((upI μ10 (b + 4) (Int32.toNatClampNeg x2) (μ10.1 (p0 + 4) (Int32.toNatClampNeg x2)))) (fun μ13 : Mm => .inl ((x2 + 1), μ13)) (fun μ13 eμ13 => ?_)
      have fμ13 : Fr [(b + 1), (b + 2), (b + 3), (b + 4)] μ μ13 := by
        rw [eμ13]
        exact Fr.up fμ10 (by simp)
      exact FrS.inl fμ13
  exact Fr_whlK (S := [(b + 1), (b + 2), (b + 3), (b + 4)]) (f := (fun s : Int32 × Mm => bd_X1_become_10 b p0 s.1 s.2)) (dd := (fun s : Int32 × Mm => s.2)) (fun s : Int32 × Mm => s.2) (fun r : Mm => r) (fun _ => rfl) key FU s
set_option maxRecDepth 20000 in
set_option maxHeartbeats 400000 in
theorem fr_X1_become (b : Nat) (p0 : Nat) (μ : Mm) : Fr [(b + 1), (b + 2), (b + 3), (b + 4), b] μ (e_X1_become b p0 μ) := by
  unfold e_X1_become
  refine lt_ (P := fun z => Fr [(b + 1), (b + 2), (b + 3), (b + 4), b] μ z) ((upI μ b 0 (μ.1 p0 0))) (fun μ1 : Mm => (let r3 : Mm := whl (fun s : Int32 × Mm => bd_X1_become_10 b p0 s.1 s.2) (fun s : Int32 × Mm => s.2) FU (0, μ1); (let μ4 : Mm := (upI r3 b 5 (r3.1 p0 5)); (let μ5 : Mm := (upI μ4 b 6 (μ4.1 p0 6)); (let μ6 : Mm := (upI μ5 b 7 (μ5.1 p0 7)); μ6))))) (fun μ1 eμ1 => ?_)
  have fμ1 : Fr [(b + 1), (b + 2), (b + 3), (b + 4), b] μ μ1 := by
    rw [eμ1]
    exact Fr.up Fr.rfl (by simp)
  refine lt_ (P := fun z => Fr [(b + 1), (b + 2), (b + 3), (b + 4), b] μ z) (whl (fun s : Int32 × Mm => bd_X1_become_10 b p0 s.1 s.2) (fun s : Int32 × Mm => s.2) FU (0, μ1)) (fun r3 : Mm => (let μ4 : Mm := (upI r3 b 5 (r3.1 p0 5)); (let μ5 : Mm := (upI μ4 b 6 (μ4.1 p0 6)); (let μ6 : Mm := (upI μ5 b 7 (μ5.1 p0 7)); μ6)))) (fun r3 er3 => ?_)
  have fr3 : Fr [(b + 1), (b + 2), (b + 3), (b + 4), b] μ r3 := by
    rw [er3]
    exact Fr.call fμ1 (fw_X1_become_10 b p0 _) (by simp)
  refine lt_ (P := fun z => Fr [(b + 1), (b + 2), (b + 3), (b + 4), b] μ z) ((upI r3 b 5 (r3.1 p0 5))) (fun μ4 : Mm => (let μ5 : Mm := (upI μ4 b 6 (μ4.1 p0 6)); (let μ6 : Mm := (upI μ5 b 7 (μ5.1 p0 7)); μ6))) (fun μ4 eμ4 => ?_)
  have fμ4 : Fr [(b + 1), (b + 2), (b + 3), (b + 4), b] μ μ4 := by
    rw [eμ4]
    exact Fr.up fr3 (by simp)
  refine lt_ (P := fun z => Fr [(b + 1), (b + 2), (b + 3), (b + 4), b] μ z) ((upI μ4 b 6 (μ4.1 p0 6))) (fun μ5 : Mm => (let μ6 : Mm := (upI μ5 b 7 (μ5.1 p0 7)); μ6)) (fun μ5 eμ5 => ?_)
  have fμ5 : Fr [(b + 1), (b + 2), (b + 3), (b + 4), b] μ μ5 := by
    rw [eμ5]
    exact Fr.up fμ4 (by simp)
  refine lt_ (P := fun z => Fr [(b + 1), (b + 2), (b + 3), (b + 4), b] μ z) ((upI μ5 b 7 (μ5.1 p0 7))) (fun μ6 : Mm => μ6) (fun μ6 eμ6 => ?_)
  have fμ6 : Fr [(b + 1), (b + 2), (b + 3), (b + 4), b] μ μ6 := by
    rw [eμ6]
    exact Fr.up fμ5 (by simp)
  exact fμ6
set_option maxRecDepth 20000 in
set_option maxHeartbeats 400000 in
theorem fw_X1_readFrom_16 (b : Nat) (p0 : Nat) (n0 : Nat) (s : Int32 × Int32 × Mm) : Fr [(b + 2), (b + 3), (b + 4)] (s.2.2) ((whl (fun s : Int32 × Int32 × Mm => bd_X1_readFrom_16 b p0 n0 s.1 s.2.1 s.2.2) (fun s : Int32 × Int32 × Mm => (0, s.2.2)) FU s).2) := by
  have key : ∀ s : Int32 × Int32 × Mm, FrS [(b + 2), (b + 3), (b + 4)] (s.2.2) (fun s : Int32 × Int32 × Mm => s.2.2) (fun r : Int32 × Mm => r.2) ((fun s : Int32 × Int32 × Mm => bd_X1_readFrom_16 b p0 n0 s.1 s.2.1 s.2.2) s) := by
    rintro ⟨x2, x3, μ⟩
    show FrS [(b + 2), (b + 3), (b + 4)] μ (fun s : Int32 × Int32 × Mm => s.2.2) (fun r : Int32 × Mm => r.2) (bd_X1_readFrom_16 b p0 n0 x2 x3 μ)
    unfold bd_X1_readFrom_16
    refine FrS.ite ?_ ?_
    · exact FrS.inr Fr.rfl
    · refine lt_ (P := fun z => FrS [(b + 2), (b + 3), (b + 4)] μ (fun s : Int32 × Int32 × Mm => s.2.2) (fun r : Int32 × Mm => r.2) z) ((upI μ (b + 2) (Int32.toNatClampNeg x3) (μ.1 p0 (Int32.toNatClampNeg (x2 + (3 * x3)))))) (fun μ4 : Mm => (let μ7 : Mm := (upI μ4 (b + 3) (Int32.toNatClampNeg x3) (μ4.1 p0 (Int32.toNatClampNeg ((x2 + (3 * x3)) + 1)))); (let μ10 : Mm := (upI μ7 (b + 4) (Int32.toNatClampNeg x3) (μ7.1 p0 (Int32.toNatClampNeg ((x2 + (3 * x3)) + 2)))); .inl (x2, (x3 + 1), μ10)))) (fun μ4 eμ4 => ?_)
      have fμ4 : Fr [(b + 2), (b + 3), (b + 4)] μ μ4 := by
        rw [eμ4]
        exact Fr.up Fr.rfl (by simp)
      refine lt_ (P := fun z => FrS [(b + 2), (b + 3), (b + 4)] μ (fun s : Int32 × Int32 × Mm => s.2.2) (fun r : Int32 × Mm => r.2) z) ((upI μ4 (b + 3) (Int32.toNatClampNeg x3) (μ4.1 p0 (Int32.toNatClampNeg ((x2 + (3 * x3)) + 1))))) (fun μ7 : Mm => (let μ10 : Mm := (upI μ7 (b + 4) (Int32.toNatClampNeg x3) (μ7.1 p0 (Int32.toNatClampNeg ((x2 + (3 * x3)) + 2)))); .inl (x2, (x3 + 1), μ10))) (fun μ7 eμ7 => ?_)
      have fμ7 : Fr [(b + 2), (b + 3), (b + 4)] μ μ7 := by
        rw [eμ7]
        exact Fr.up fμ4 (by simp)
      refine lt_ (P := fun z => FrS [(b + 2), (b + 3), (b + 4)] μ (fun s : Int32 × Int32 × Mm => s.2.2) (fun r : Int32 × Mm => r.2) z) ((upI μ7 (b + 4) (Int32.toNatClampNeg x3) (μ7.1 p0 (Int32.toNatClampNeg ((x2 + (3 * x3)) + 2))))) (fun μ10 : Mm => .inl (x2, (x3 + 1), μ10)) (fun μ10 eμ10 => ?_)
      have fμ10 : Fr [(b + 2), (b + 3), (b + 4)] μ μ10 := by
        rw [eμ10]
        exact Fr.up fμ7 (by simp)
      exact FrS.inl fμ10
  exact Fr_whlK (S := [(b + 2), (b + 3), (b + 4)]) (f := (fun s : Int32 × Int32 × Mm => bd_X1_readFrom_16 b p0 n0 s.1 s.2.1 s.2.2)) (dd := (fun s : Int32 × Int32 × Mm => (0, s.2.2))) (fun s : Int32 × Int32 × Mm => s.2.2) (fun r : Int32 × Mm => r.2) (fun _ => rfl) key FU s
set_option maxRecDepth 20000 in
set_option maxHeartbeats 400000 in
theorem fr_X1_readFrom (b : Nat) (p0 : Nat) (n0 : Nat) (p1 : Int32) (μ : Mm) : Fr [(b + 2), (b + 3), (b + 4), b] μ (e_X1_readFrom b p0 n0 p1 μ) := by
  unfold e_X1_readFrom
  refine Fr.ite ?_ ?_
  · exact Fr.rfl
  · refine Fr.ite ?_ ?_
    · refine lt_ (P := fun z => Fr [(b + 2), (b + 3), (b + 4), b] μ z) (whl (fun s : Int32 × Int32 × Mm => bd_X1_readFrom_16 b p0 n0 s.1 s.2.1 s.2.2) (fun s : Int32 × Int32 × Mm => (0, s.2.2)) FU (p1, 0, μ)) (fun r4 : Int32 × Mm => (let μ6 : Mm := (upI (r4.2) b 5 ((r4.2).1 p0 (Int32.toNatClampNeg (((r4.1) + 24) - 3)))); (let μ8 : Mm := (upI μ6 b 6 (μ6.1 p0 (Int32.toNatClampNeg (((r4.1) + 24) - 2)))); (let μ10 : Mm := (upI μ8 b 7 (μ8.1 p0 (Int32.toNatClampNeg (((r4.1) + 24) - 1)))); μ10)))) (fun r4 er4 => ?_)
      have fr4 : Fr [(b + 2), (b + 3), (b + 4), b] μ (r4.2) := by
        rw [er4]
        exact Fr.call Fr.rfl (fw_X1_readFrom_16 b p0 n0 _) (by simp)
      refine lt_ (P := fun z => Fr [(b + 2), (b + 3), (b + 4), b] μ z) ((upI (r4.2) b 5 ((r4.2).1 p0 (Int32.toNatClampNeg (((r4.1) + 24) - 3))))) (fun μ6 : Mm => (let μ8 : Mm := (upI μ6 b 6 (μ6.1 p0 (Int32.toNatClampNeg (((r4.1) + 24) - 2)))); (let μ10 : Mm := (upI μ8 b 7 (μ8.1 p0 (Int32.toNatClampNeg (((r4.1) + 24) - 1)))); μ10))) (fun μ6 eμ6 => ?_)
      have fμ6 : Fr [(b + 2), (b + 3), (b + 4), b] μ μ6 := by
        rw [eμ6]
        exact Fr.up fr4 (by simp)
      refine lt_ (P := fun z => Fr [(b + 2), (b + 3), (b + 4), b] μ z) ((upI μ6 b 6 (μ6.1 p0 (Int32.toNatClampNeg (((r4.1) + 24) - 2))))) (fun μ8 : Mm => (let μ10 : Mm := (upI μ8 b 7 (μ8.1 p0 (Int32.toNatClampNeg (((r4.1) + 24) - 1)))); μ10)) (fun μ8 eμ8 => ?_)
      have fμ8 : Fr [(b + 2), (b + 3), (b + 4), b] μ μ8 := by
        rw [eμ8]
        exact Fr.up fμ6 (by simp)
      refine lt_ (P := fun z => Fr [(b + 2), (b + 3), (b + 4), b] μ z) ((upI μ8 b 7 (μ8.1 p0 (Int32.toNatClampNeg (((r4.1) + 24) - 1))))) (fun μ10 : Mm => μ10) (fun μ10 eμ10 => ?_)
      have fμ10 : Fr [(b + 2), (b + 3), (b + 4), b] μ μ10 := by
        rw [eμ10]
        exact Fr.up fμ8 (by simp)
      exact fμ10
    · exact Fr.rfl
set_option maxRecDepth 20000 in
set_option maxHeartbeats 400000 in
theorem fw_X1_writeTo_16 (b : Nat) (p0 : Nat) (n0 : Nat) (s : Int32 × Int32 × Mm) : Fr [p0] (s.2.2) ((whl (fun s : Int32 × Int32 × Mm => bd_X1_writeTo_16 b p0 n0 s.1 s.2.1 s.2.2) (fun s : Int32 × Int32 × Mm => (0, s.2.2)) FU s).2) := by
  have key : ∀ s : Int32 × Int32 × Mm, FrS [p0] (s.2.2) (fun s : Int32 × Int32 × Mm => s.2.2) (fun r : Int32 × Mm => r.2) ((fun s : Int32 × Int32 × Mm => bd_X1_writeTo_16 b p0 n0 s.1 s.2.1 s.2.2) s) := by
    rintro ⟨x2, x3, μ⟩
    show FrS [p0] μ (fun s : Int32 × Int32 × Mm => s.2.2) (fun r : Int32 × Mm => r.2) (bd_X1_writeTo_16 b p0 n0 x2 x3 μ)
    unfold bd_X1_writeTo_16
    refine FrS.ite ?_ ?_
    · exact FrS.inr Fr.rfl
    · refine lt_ (P := fun z => FrS [p0] μ (fun s : Int32 × Int32 × Mm => s.2.2) (fun r : Int32 × Mm => r.2) z) ((upI μ p0 (Int32.toNatClampNeg (x2 + (3 * x3))) (μ.1 (b + 2) (Int32.toNatClampNeg x3)))) (fun μ4 : Mm => (let μ7 : Mm := (upI μ4 p0 (Int32.toNatClampNeg ((x2 + (3 * x3)) + 1)) (μ4.1 (b + 3) (Int32.toNatClampNeg x3))); (let μ10 : Mm := (upI μ7 p0 (Int32.toNatClampNeg ((x2 + (3 * x3)) + 2)) (μ7.1 (b + 4) (Int32.toNatClampNeg x3))); .inl (x2, (x3 + 1), μ10)))) (fun μ4 eμ4 => ?_)
      have fμ4 : Fr [p0] μ μ4 := by
        rw [eμ4]
        exact Fr.up Fr.rfl (by simp)
      refine lt_ (P := fun z => FrS [p0] μ (fun s : Int32 × Int32 × Mm => s.2.2) (fun r : Int32 × Mm => r.2) z) ((upI μ4 p0 (Int32.toNatClampNeg ((x2 + (3 * x3)) + 1)) (μ4.1 (b + 3) (Int32.toNatClampNeg x3)))) (fun μ7 : Mm => (let μ10 : Mm := (upI μ7 p0 (Int32.toNatClampNeg ((x2 + (3 * x3)) + 2)) (μ7.1 (b + 4) (Int32.toNatClampNeg x3))); .inl (x2, (x3 + 1), μ10))) (fun μ7 eμ7 => ?_)
      have fμ7 : Fr [p0] μ μ7 := by
        rw [eμ7]
        exact Fr.up fμ4 (by simp)
      refine lt_ (P := fun z => FrS [p0] μ (fun s : Int32 × Int32 × Mm => s.2.2) (fun r : Int32 × Mm => r.2) z) ((upI μ7 p0 (Int32.toNatClampNeg ((x2 + (3 * x3)) + 2)) (μ7.1 (b + 4) (Int32.toNatClampNeg x3)))) (fun μ10 : Mm => .inl (x2, (x3 + 1), μ10)) (fun μ10 eμ10 => ?_)
      have fμ10 : Fr [p0] μ μ10 := by
        rw [eμ10]
        exact Fr.up fμ7 (by simp)
      exact FrS.inl fμ10
  exact Fr_whlK (S := [p0]) (f := (fun s : Int32 × Int32 × Mm => bd_X1_writeTo_16 b p0 n0 s.1 s.2.1 s.2.2)) (dd := (fun s : Int32 × Int32 × Mm => (0, s.2.2))) (fun s : Int32 × Int32 × Mm => s.2.2) (fun r : Int32 × Mm => r.2) (fun _ => rfl) key FU s
set_option maxRecDepth 20000 in
set_option maxHeartbeats 400000 in
theorem fr_X1_writeTo (b : Nat) (p0 : Nat) (n0 : Nat) (p1 : Int32) (μ : Mm) : Fr [p0] μ (e_X1_writeTo b p0 n0 p1 μ) := by
  unfold e_X1_writeTo
  refine Fr.ite ?_ ?_
  · exact Fr.rfl
  · refine Fr.ite ?_ ?_
    · refine lt_ (P := fun z => Fr [p0] μ z) (whl (fun s : Int32 × Int32 × Mm => bd_X1_writeTo_16 b p0 n0 s.1 s.2.1 s.2.2) (fun s : Int32 × Int32 × Mm => (0, s.2.2)) FU (p1, 0, μ)) (fun r4 : Int32 × Mm => (let μ6 : Mm := (upI (r4.2) p0 (Int32.toNatClampNeg (((r4.1) + 24) - 3)) ((r4.2).1 b 5)); (let μ8 : Mm := (upI μ6 p0 (Int32.toNatClampNeg (((r4.1) + 24) - 2)) (μ6.1 b 6)); (let μ10 : Mm := (upI μ8 p0 (Int32.toNatClampNeg (((r4.1) + 24) - 1)) (μ8.1 b 7)); μ10)))) (fun r4 er4 => ?_)
      have fr4 : Fr [p0] μ (r4.2) := by
        rw [er4]
        exact Fr.call Fr.rfl (fw_X1_writeTo_16 b p0 n0 _) (by simp)
      refine lt_ (P := fun z => Fr [p0] μ z) ((upI (r4.2) p0 (Int32.toNatClampNeg (((r4.1) + 24) - 3)) ((r4.2).1 b 5))) (fun μ6 : Mm => (let μ8 : Mm := (upI μ6 p0 (Int32.toNatClampNeg (((r4.1) + 24) - 2)) (μ6.1 b 6)); (let μ10 : Mm := (upI μ8 p0 (Int32.toNatClampNeg (((r4.1) + 24) - 1)) (μ8.1 b 7)); μ10))) (fun μ6 eμ6 => ?_)
      have fμ6 : Fr [p0] μ μ6 := by
        rw [eμ6]
        exact Fr.up fr4 (by simp)
      refine lt_ (P := fun z => Fr [p0] μ z) ((upI μ6 p0 (Int32.toNatClampNeg (((r4.1) + 24) - 2)) (μ6.1 b 6))) (fun μ8 : Mm => (let μ10 : Mm := (upI μ8 p0 (Int32.toNatClampNeg (((r4.1) + 24) - 1)) (μ8.1 b 7)); μ10)) (fun μ8 eμ8 => ?_)
      have fμ8 : Fr [p0] μ μ8 := by
        rw [eμ8]
        exact Fr.up fμ6 (by simp)
      refine lt_ (P := fun z => Fr [p0] μ z) ((upI μ8 p0 (Int32.toNatClampNeg (((r4.1) + 24) - 1)) (μ8.1 b 7))) (fun μ10 : Mm => μ10) (fun μ10 eμ10 => ?_)
      have fμ10 : Fr [p0] μ μ10 := by
        rw [eμ10]
        exact Fr.up fμ8 (by simp)
      exact fμ10
    · exact Fr.rfl
set_option maxRecDepth 20000 in
set_option maxHeartbeats 400000 in
theorem fw_X3_loseAll_7  (s : Int32 × Mm) : Fr [32] (s.2) ((whl (fun s : Int32 × Mm => bd_X3_loseAll_7  s.1 s.2) (fun s : Int32 × Mm => s.2) FU s)) := by
  have key : ∀ s : Int32 × Mm, FrS [32] (s.2) (fun s : Int32 × Mm => s.2) (fun r : Mm => r) ((fun s : Int32 × Mm => bd_X3_loseAll_7  s.1 s.2) s) := by
    rintro ⟨x1, μ⟩
    show FrS [32] μ (fun s : Int32 × Mm => s.2) (fun r : Mm => r) (bd_X3_loseAll_7  x1 μ)
    unfold bd_X3_loseAll_7
    refine FrS.ite ?_ ?_
    · exact FrS.inr Fr.rfl
    · refine lt_ (P := fun z => FrS [32] μ (fun s : Int32 × Mm => s.2) (fun r : Mm => r) z) ((upI μ 32 (Int32.toNatClampNeg x1) (vp_nar .boolean 0))) (fun μ3 : Mm => .inl ((x1 + 1), μ3)) (fun μ3 eμ3 => ?_)
      have fμ3 : Fr [32] μ μ3 := by
        rw [eμ3]
        exact Fr.up Fr.rfl (by simp)
      exact FrS.inl fμ3
  exact Fr_whlK (S := [32]) (f := (fun s : Int32 × Mm => bd_X3_loseAll_7  s.1 s.2)) (dd := (fun s : Int32 × Mm => s.2)) (fun s : Int32 × Mm => s.2) (fun r : Mm => r) (fun _ => rfl) key FU s
set_option maxRecDepth 20000 in
set_option maxHeartbeats 400000 in
theorem fr_X3_loseAll  (μ : Mm) : Fr [29, 32] μ (e_X3_loseAll  μ) := by
  unfold e_X3_loseAll
  refine lt_ (P := fun z => Fr [29, 32] μ z) ((upI μ 29 2 0)) (fun μ1 : Mm => (let r3 : Mm := whl (fun s : Int32 × Mm => bd_X3_loseAll_7  s.1 s.2) (fun s : Int32 × Mm => s.2) FU (0, μ1); r3)) (fun μ1 eμ1 => ?_)
  have fμ1 : Fr [29, 32] μ μ1 := by
    rw [eμ1]
    exact Fr.up Fr.rfl (by simp)
  refine lt_ (P := fun z => Fr [29, 32] μ z) (whl (fun s : Int32 × Mm => bd_X3_loseAll_7  s.1 s.2) (fun s : Int32 × Mm => s.2) FU (0, μ1)) (fun r3 : Mm => r3) (fun r3 er3 => ?_)
  have fr3 : Fr [29, 32] μ r3 := by
    rw [er3]
    exact Fr.call fμ1 (fw_X3_loseAll_7  _) (by simp)
  exact fr3
set_option maxRecDepth 20000 in
set_option maxHeartbeats 400000 in
theorem fw_X5_become_2 (b : Nat) (p0 : Nat) (s : Int32 × Mm) : Fr [(b + 1)] (s.2) ((whl (fun s : Int32 × Mm => bd_X5_become_2 b p0 s.1 s.2) (fun s : Int32 × Mm => s.2) FU s)) := by
  have key : ∀ s : Int32 × Mm, FrS [(b + 1)] (s.2) (fun s : Int32 × Mm => s.2) (fun r : Mm => r) ((fun s : Int32 × Mm => bd_X5_become_2 b p0 s.1 s.2) s) := by
    rintro ⟨x2, μ⟩
    show FrS [(b + 1)] μ (fun s : Int32 × Mm => s.2) (fun r : Mm => r) (bd_X5_become_2 b p0 x2 μ)
    unfold bd_X5_become_2
    refine FrS.ite ?_ ?_
    · exact FrS.inr Fr.rfl
    · refine FrS.ite ?_ ?_
      · exact FrS.inr Fr.rfl
      · refine lt_ (P := fun z => FrS [(b + 1)] μ (fun s : Int32 × Mm => s.2) (fun r : Mm => r) z) ((upI μ (b + 1) (Int32.toNatClampNeg x2) (μ.1 (p0 + 1) (Int32.toNatClampNeg x2)))) (fun μ5 : Mm => .inl ((x2 + 1), μ5)) (fun μ5 eμ5 => ?_)
        have fμ5 : Fr [(b + 1)] μ μ5 := by
          rw [eμ5]
          exact Fr.up Fr.rfl (by simp)
        exact FrS.inl fμ5
  exact Fr_whlK (S := [(b + 1)]) (f := (fun s : Int32 × Mm => bd_X5_become_2 b p0 s.1 s.2)) (dd := (fun s : Int32 × Mm => s.2)) (fun s : Int32 × Mm => s.2) (fun r : Mm => r) (fun _ => rfl) key FU s
set_option maxRecDepth 20000 in
set_option maxHeartbeats 400000 in
theorem fr_X5_become (b : Nat) (p0 : Nat) (μ : Mm) : Fr [(b + 1), b] μ (e_X5_become b p0 μ) := by
  unfold e_X5_become
  refine lt_ (P := fun z => Fr [(b + 1), b] μ z) (whl (fun s : Int32 × Mm => bd_X5_become_2 b p0 s.1 s.2) (fun s : Int32 × Mm => s.2) FU (0, μ)) (fun r2 : Mm => (let μ3 : Mm := (upI r2 b 1 (r2.1 p0 1)); (let μ6 : Mm := (upI μ3 b 2 (μ3.1 p0 2)); μ6))) (fun r2 er2 => ?_)
  have fr2 : Fr [(b + 1), b] μ r2 := by
    rw [er2]
    exact Fr.call Fr.rfl (fw_X5_become_2 b p0 _) (by simp)
  refine lt_ (P := fun z => Fr [(b + 1), b] μ z) ((upI r2 b 1 (r2.1 p0 1))) (fun μ3 : Mm => (let μ6 : Mm := (upI μ3 b 2 (μ3.1 p0 2)); μ6)) (fun μ3 eμ3 => ?_)
  have fμ3 : Fr [(b + 1), b] μ μ3 := by
    rw [eμ3]
    exact Fr.up fr2 (by simp)
  refine lt_ (P := fun z => Fr [(b + 1), b] μ z) ((upI μ3 b 2 (μ3.1 p0 2))) (fun μ6 : Mm => μ6) (fun μ6 eμ6 => ?_)
  have fμ6 : Fr [(b + 1), b] μ μ6 := by
    rw [eμ6]
    exact Fr.up fμ3 (by simp)
  exact fμ6
set_option maxRecDepth 20000 in
set_option maxHeartbeats 400000 in
theorem fw_X9_addFour_16  (s : Int32 × Int32 × Mm) : Fr [25, 26] (s.2.2) ((whl (fun s : Int32 × Int32 × Mm => bd_X9_addFour_16  s.1 s.2.1 s.2.2) (fun s : Int32 × Int32 × Mm => s.2.2) FU s)) := by
  have key : ∀ s : Int32 × Int32 × Mm, FrS [25, 26] (s.2.2) (fun s : Int32 × Int32 × Mm => s.2.2) (fun r : Mm => r) ((fun s : Int32 × Int32 × Mm => bd_X9_addFour_16  s.1 s.2.1 s.2.2) s) := by
    rintro ⟨x1, x2, μ⟩
    show FrS [25, 26] μ (fun s : Int32 × Int32 × Mm => s.2.2) (fun r : Mm => r) (bd_X9_addFour_16  x1 x2 μ)
    unfold bd_X9_addFour_16
    refine FrS.ite ?_ ?_
    · exact FrS.inr Fr.rfl
    · refine lt_ (P := fun z => FrS [25, 26] μ (fun s : Int32 × Int32 × Mm => s.2.2) (fun r : Mm => r) z) ((upI μ 26 (Int32.toNatClampNeg (μ.1 25 1)) (vp_nar .char ((Int32.toUInt32 ((Int32.toUInt32 x1 >>> (Int32.toUInt32 x2 &&& Int32.toUInt32 31)).toInt32 &&& 255) % 65536).toInt32)))) (fun μ3 : Mm => (let μ4 : Mm := (upI μ3 25 1 ((μ3.1 25 1) + 1)); .inl (x1, (x2 + (-8)), μ4))) (fun μ3 eμ3 => ?_)
      have fμ3 : Fr [25, 26] μ μ3 := by
        rw [eμ3]
        exact Fr.up Fr.rfl (by simp)
      refine lt_ (P := fun z => FrS [25, 26] μ (fun s : Int32 × Int32 × Mm => s.2.2) (fun r : Mm => r) z) ((upI μ3 25 1 ((μ3.1 25 1) + 1))) (fun μ4 : Mm => .inl (x1, (x2 + (-8)), μ4)) (fun μ4 eμ4 => ?_)
      have fμ4 : Fr [25, 26] μ μ4 := by
        rw [eμ4]
        exact Fr.up fμ3 (by simp)
      exact FrS.inl fμ4
  exact Fr_whlK (S := [25, 26]) (f := (fun s : Int32 × Int32 × Mm => bd_X9_addFour_16  s.1 s.2.1 s.2.2)) (dd := (fun s : Int32 × Int32 × Mm => s.2.2)) (fun s : Int32 × Int32 × Mm => s.2.2) (fun r : Mm => r) (fun _ => rfl) key FU s
set_option maxRecDepth 20000 in
set_option maxHeartbeats 400000 in
theorem fr_X9_addFour (p0 : Int32) (μ : Mm) : Fr [25, 26] μ (e_X9_addFour p0 μ) := by
  unfold e_X9_addFour
  refine Fr.ite ?_ ?_
  · refine lt_ (P := fun z => Fr [25, 26] μ z) (whl (fun s : Int32 × Int32 × Mm => bd_X9_addFour_16  s.1 s.2.1 s.2.2) (fun s : Int32 × Int32 × Mm => s.2.2) FU (p0, 24, μ)) (fun r3 : Mm => r3) (fun r3 er3 => ?_)
    have fr3 : Fr [25, 26] μ r3 := by
      rw [er3]
      exact Fr.call Fr.rfl (fw_X9_addFour_16  _) (by simp)
    exact fr3
  · exact Fr.rfl
set_option maxRecDepth 20000 in
set_option maxHeartbeats 400000 in
theorem fw_X11_bears_26  (s : Int32 × Int32 × Mm) : Fr [12, 27, 28] (s.2.2) ((whl (fun s : Int32 × Int32 × Mm => bd_X11_bears_26  s.1 s.2.1 s.2.2) (fun s : Int32 × Int32 × Mm => (0, s.2.2)) FU s).2) := by
  have key : ∀ s : Int32 × Int32 × Mm, FrS [12, 27, 28] (s.2.2) (fun s : Int32 × Int32 × Mm => s.2.2) (fun r : Int32 × Mm => r.2) ((fun s : Int32 × Int32 × Mm => bd_X11_bears_26  s.1 s.2.1 s.2.2) s) := by
    rintro ⟨x1, x2, μ⟩
    show FrS [12, 27, 28] μ (fun s : Int32 × Int32 × Mm => s.2.2) (fun r : Int32 × Mm => r.2) (bd_X11_bears_26  x1 x2 μ)
    unfold bd_X11_bears_26
    refine FrS.ite ?_ ?_
    · exact FrS.inr Fr.rfl
    · refine lt_ (P := fun z => FrS [12, 27, 28] μ (fun s : Int32 × Int32 × Mm => s.2.2) (fun r : Int32 × Mm => r.2) z) ((upI μ 12 (Int32.toNatClampNeg x1) x2)) (fun μ3 : Mm => (if (v_X1_moment 8 μ3) ≤ 0 then .inl (x1, (x2 + 1), μ3) else (let μ6 : Mm := (e_X10_begin  μ3); (let μ8 : Mm := (e_X10_add (Int32.toInt64 (2000 + (v_X1_moment 8 μ3))) μ6); .inr (x2, μ8))))) (fun μ3 eμ3 => ?_)
      have fμ3 : Fr [12, 27, 28] μ μ3 := by
        rw [eμ3]
        exact Fr.up Fr.rfl (by simp)
      refine FrS.ite ?_ ?_
      · exact FrS.inl fμ3
      · refine lt_ (P := fun z => FrS [12, 27, 28] μ (fun s : Int32 × Int32 × Mm => s.2.2) (fun r : Int32 × Mm => r.2) z) ((e_X10_begin  μ3)) (fun μ6 : Mm => (let μ8 : Mm := (e_X10_add (Int32.toInt64 (2000 + (v_X1_moment 8 μ3))) μ6); .inr (x2, μ8))) (fun μ6 eμ6 => ?_)
        have fμ6 : Fr [12, 27, 28] μ μ6 := by
          rw [eμ6]
          exact Fr.call fμ3 (fr_X10_begin μ3) (by simp)
        refine lt_ (P := fun z => FrS [12, 27, 28] μ (fun s : Int32 × Int32 × Mm => s.2.2) (fun r : Int32 × Mm => r.2) z) ((e_X10_add (Int32.toInt64 (2000 + (v_X1_moment 8 μ3))) μ6)) (fun μ8 : Mm => .inr (x2, μ8)) (fun μ8 eμ8 => ?_)
        have fμ8 : Fr [12, 27, 28] μ μ8 := by
          rw [eμ8]
          exact Fr.call fμ6 (fr_X10_add (Int32.toInt64 (2000 + (v_X1_moment 8 μ3))) μ6) (by simp)
        exact FrS.inr fμ8
  exact Fr_whlK (S := [12, 27, 28]) (f := (fun s : Int32 × Int32 × Mm => bd_X11_bears_26  s.1 s.2.1 s.2.2)) (dd := (fun s : Int32 × Int32 × Mm => (0, s.2.2))) (fun s : Int32 × Int32 × Mm => s.2.2) (fun r : Int32 × Mm => r.2) (fun _ => rfl) key FU s
set_option maxRecDepth 20000 in
set_option maxHeartbeats 400000 in
theorem fr_X11_bears (p0 : Int32) (μ : Mm) : Fr [10, 11, 12, 27, 28, 8, 9] μ (e_X11_bears p0 μ) := by
  unfold e_X11_bears
  refine Fr.ite ?_ ?_
  · exact Fr.rfl
  · refine lt_ (P := fun z => Fr [10, 11, 12, 27, 28, 8, 9] μ z) ((e_X1_become 8 1 μ)) (fun μ3 : Mm => (whl (fun s : Int32 × Int32 × Mm => bd_X11_bears_26  s.1 s.2.1 s.2.2) (fun s : Int32 × Int32 × Mm => (0, s.2.2)) FU (p0, 0, μ3)).2) (fun μ3 eμ3 => ?_)
    have fμ3 : Fr [10, 11, 12, 27, 28, 8, 9] μ μ3 := by
      rw [eμ3]
      exact Fr.call Fr.rfl (fr_X1_become 8 1 μ) (by simp)
    exact Fr.call fμ3 (fw_X11_bears_26  _) (by simp)
set_option maxRecDepth 20000 in
set_option maxHeartbeats 400000 in
theorem fr_X11_farthest  (μ : Mm) : Fr [27, 28] μ (e_X11_farthest  μ) := by
  unfold e_X11_farthest
  refine lt_ (P := fun z => Fr [27, 28] μ z) (whl (fun s : Int32 × Int32 × Int32 × Int32 => bd_X11_farthest_10  μ s.1 s.2.1 s.2.2.1 s.2.2.2) (fun _ : Int32 × Int32 × Int32 × Int32 => (0, 0, 0)) FU ((-2), (-1), 0, 0)) (fun r2 : Int32 × Int32 × Int32 => (let μ9 : Mm := (if (r2.1) = (-2) then μ else ((e_X10_add (Int32.toInt64 (r2.2.2)) ((e_X10_add (Int32.toInt64 (r2.2.1)) ((e_X10_begin  μ)))))) : Mm); μ9)) (fun r2 er2 => ?_)
  refine lt_ (P := fun z => Fr [27, 28] μ z) ((if (r2.1) = (-2) then μ else ((e_X10_add (Int32.toInt64 (r2.2.2)) ((e_X10_add (Int32.toInt64 (r2.2.1)) ((e_X10_begin  μ)))))) : Mm)) (fun μ9 : Mm => μ9) (fun μ9 eμ9 => ?_)
  have fμ9 : Fr [27, 28] μ μ9 := by
    rw [eμ9]
    repeat' (first | with_reducible assumption | with_reducible exact Fr.rfl | with_reducible refine Fr.ite ?_ ?_ | with_reducible refine Fr.up ?_ (by simp) | with_reducible refine Fr.upJ ?_ (by simp) | with_reducible refine Fr.call ?_ (fr_X10_add _ _) (by simp) | with_reducible refine Fr.call ?_ (fr_X10_begin _) (by simp))
  exact fμ9
set_option maxRecDepth 20000 in
set_option maxHeartbeats 400000 in
theorem fr_X11_sign (p0 : Int32) (μ : Mm) : Fr [25, 26] μ (e_X11_sign p0 μ) := by
  unfold e_X11_sign
  refine lt_ (P := fun z => Fr [25, 26] μ z) ((e_X9_addFour p0 μ)) (fun μ2 : Mm => μ2) (fun μ2 eμ2 => ?_)
  have fμ2 : Fr [25, 26] μ μ2 := by
    rw [eμ2]
    exact Fr.call Fr.rfl (fr_X9_addFour p0 μ) (by simp)
  exact fμ2
set_option maxRecDepth 20000 in
set_option maxHeartbeats 400000 in
theorem fr_X11_tellFraction (p0 : Int64) (p1 : Int64) (μ : Mm) : Fr [27, 28] μ (e_X11_tellFraction p0 p1 μ) := by
  unfold e_X11_tellFraction
  refine lt_ (P := fun z => Fr [27, 28] μ z) (whl (fun s : Int64 × Int64 × Int64 × Int64 × Int32 => bd_X11_tellFraction_9  μ s.1 s.2.1 s.2.2.1 s.2.2.2.1 s.2.2.2.2) (fun _ : Int64 × Int64 × Int64 × Int64 × Int32 => (0, 0, 0)) FU (p0, p1, p1, p0, 0)) (fun r2 : Int64 × Int64 × Int64 => (let μ5 : Mm := (e_X10_begin  μ); (let μ8 : Mm := (e_X10_add ((r2.1) / (if (lg_cmp (r2.2.2) 0) ≤ 0 then 1 else (r2.2.2) : Int64)) μ5); (let μ11 : Mm := (e_X10_add ((r2.2.1) / (if (lg_cmp (r2.2.2) 0) ≤ 0 then 1 else (r2.2.2) : Int64)) μ8); μ11)))) (fun r2 er2 => ?_)
  refine lt_ (P := fun z => Fr [27, 28] μ z) ((e_X10_begin  μ)) (fun μ5 : Mm => (let μ8 : Mm := (e_X10_add ((r2.1) / (if (lg_cmp (r2.2.2) 0) ≤ 0 then 1 else (r2.2.2) : Int64)) μ5); (let μ11 : Mm := (e_X10_add ((r2.2.1) / (if (lg_cmp (r2.2.2) 0) ≤ 0 then 1 else (r2.2.2) : Int64)) μ8); μ11))) (fun μ5 eμ5 => ?_)
  have fμ5 : Fr [27, 28] μ μ5 := by
    rw [eμ5]
    exact Fr.call Fr.rfl (fr_X10_begin μ) (by simp)
  refine lt_ (P := fun z => Fr [27, 28] μ z) ((e_X10_add ((r2.1) / (if (lg_cmp (r2.2.2) 0) ≤ 0 then 1 else (r2.2.2) : Int64)) μ5)) (fun μ8 : Mm => (let μ11 : Mm := (e_X10_add ((r2.2.1) / (if (lg_cmp (r2.2.2) 0) ≤ 0 then 1 else (r2.2.2) : Int64)) μ8); μ11)) (fun μ8 eμ8 => ?_)
  have fμ8 : Fr [27, 28] μ μ8 := by
    rw [eμ8]
    exact Fr.call fμ5 (fr_X10_add ((r2.1) / (if (lg_cmp (r2.2.2) 0) ≤ 0 then 1 else (r2.2.2) : Int64)) μ5) (by simp)
  refine lt_ (P := fun z => Fr [27, 28] μ z) ((e_X10_add ((r2.2.1) / (if (lg_cmp (r2.2.2) 0) ≤ 0 then 1 else (r2.2.2) : Int64)) μ8)) (fun μ11 : Mm => μ11) (fun μ11 eμ11 => ?_)
  have fμ11 : Fr [27, 28] μ μ11 := by
    rw [eμ11]
    exact Fr.call fμ8 (fr_X10_add ((r2.2.1) / (if (lg_cmp (r2.2.2) 0) ≤ 0 then 1 else (r2.2.2) : Int64)) μ8) (by simp)
  exact fμ11
set_option maxRecDepth 20000 in
set_option maxHeartbeats 400000 in
theorem fw_X11_tellPlacesOfTrial_2  (s : Int32 × Mm) : Fr [27, 28] (s.2) ((whl (fun s : Int32 × Mm => bd_X11_tellPlacesOfTrial_2  s.1 s.2) (fun s : Int32 × Mm => s.2) FU s)) := by
  have key : ∀ s : Int32 × Mm, FrS [27, 28] (s.2) (fun s : Int32 × Mm => s.2) (fun r : Mm => r) ((fun s : Int32 × Mm => bd_X11_tellPlacesOfTrial_2  s.1 s.2) s) := by
    rintro ⟨x1, μ⟩
    show FrS [27, 28] μ (fun s : Int32 × Mm => s.2) (fun r : Mm => r) (bd_X11_tellPlacesOfTrial_2  x1 μ)
    unfold bd_X11_tellPlacesOfTrial_2
    refine FrS.ite ?_ ?_
    · exact FrS.inr Fr.rfl
    · refine lt_ (P := fun z => FrS [27, 28] μ (fun s : Int32 × Mm => s.2) (fun r : Mm => r) z) ((e_X10_add (Int32.toInt64 (100 + (μ.1 11 (Int32.toNatClampNeg x1)))) μ)) (fun μ4 : Mm => .inl ((x1 + 1), μ4)) (fun μ4 eμ4 => ?_)
      have fμ4 : Fr [27, 28] μ μ4 := by
        rw [eμ4]
        exact Fr.call Fr.rfl (fr_X10_add (Int32.toInt64 (100 + (μ.1 11 (Int32.toNatClampNeg x1)))) μ) (by simp)
      exact FrS.inl fμ4
  exact Fr_whlK (S := [27, 28]) (f := (fun s : Int32 × Mm => bd_X11_tellPlacesOfTrial_2  s.1 s.2)) (dd := (fun s : Int32 × Mm => s.2)) (fun s : Int32 × Mm => s.2) (fun r : Mm => r) (fun _ => rfl) key FU s
set_option maxRecDepth 20000 in
set_option maxHeartbeats 400000 in
theorem fr_X11_tellPlacesOfTrial  (μ : Mm) : Fr [27, 28] μ (e_X11_tellPlacesOfTrial  μ) := by
  unfold e_X11_tellPlacesOfTrial
  refine lt_ (P := fun z => Fr [27, 28] μ z) (whl (fun s : Int32 × Mm => bd_X11_tellPlacesOfTrial_2  s.1 s.2) (fun s : Int32 × Mm => s.2) FU (0, μ)) (fun r2 : Mm => r2) (fun r2 er2 => ?_)
  have fr2 : Fr [27, 28] μ r2 := by
    rw [er2]
    exact Fr.call Fr.rfl (fw_X11_tellPlacesOfTrial_2  _) (by simp)
  exact fr2
set_option maxRecDepth 20000 in
set_option maxHeartbeats 400000 in
theorem fw_X12_again_43  (s : Int32 × Int32 × Mm) : Fr [52] (s.2.2) ((whl (fun s : Int32 × Int32 × Mm => bd_X12_again_43  s.1 s.2.1 s.2.2) (fun s : Int32 × Int32 × Mm => s.2.2) FU s)) := by
  have key : ∀ s : Int32 × Int32 × Mm, FrS [52] (s.2.2) (fun s : Int32 × Int32 × Mm => s.2.2) (fun r : Mm => r) ((fun s : Int32 × Int32 × Mm => bd_X12_again_43  s.1 s.2.1 s.2.2) s) := by
    rintro ⟨x1, x2, μ⟩
    show FrS [52] μ (fun s : Int32 × Int32 × Mm => s.2.2) (fun r : Mm => r) (bd_X12_again_43  x1 x2 μ)
    unfold bd_X12_again_43
    refine FrS.ite ?_ ?_
    · exact FrS.inr Fr.rfl
    · refine lt_ (P := fun z => FrS [52] μ (fun s : Int32 × Int32 × Mm => s.2.2) (fun r : Mm => r) z) ((upI μ 52 (Int32.toNatClampNeg x2) (μ.1 77 (Int32.toNatClampNeg ((24 * x1) + x2))))) (fun μ4 : Mm => .inl (x1, (x2 + 1), μ4)) (fun μ4 eμ4 => ?_)
      have fμ4 : Fr [52] μ μ4 := by
        rw [eμ4]
        exact Fr.up Fr.rfl (by simp)
      exact FrS.inl fμ4
  exact Fr_whlK (S := [52]) (f := (fun s : Int32 × Int32 × Mm => bd_X12_again_43  s.1 s.2.1 s.2.2)) (dd := (fun s : Int32 × Int32 × Mm => s.2.2)) (fun s : Int32 × Int32 × Mm => s.2.2) (fun r : Mm => r) (fun _ => rfl) key FU s
set_option maxRecDepth 20000 in
set_option maxHeartbeats 400000 in
theorem fr_X12_again (p0 : Int32) (μ : Mm) : Fr [49, 52] μ (e_X12_again p0 μ) := by
  unfold e_X12_again
  refine lt_ (P := fun z => Fr [49, 52] μ z) ((upI μ 49 0 0)) (fun μ1 : Mm => (if (v_X12_in (Int32.toInt64 p0) 0 2) = 0 then μ1 else (if (μ1.1 75 (Int32.toNatClampNeg p0)) = 0 then μ1 else (if (μ1.1 76 (Int32.toNatClampNeg p0)) = (μ1.1 49 4) then (let r8 : Mm := whl (fun s : Int32 × Int32 × Mm => bd_X12_again_43  s.1 s.2.1 s.2.2) (fun s : Int32 × Int32 × Mm => s.2.2) FU (p0, 0, μ1); (let μ9 : Mm := (upI r8 49 23 0); μ9)) else μ1)))) (fun μ1 eμ1 => ?_)
  have fμ1 : Fr [49, 52] μ μ1 := by
    rw [eμ1]
    exact Fr.up Fr.rfl (by simp)
  refine Fr.ite ?_ ?_
  · exact fμ1
  · refine Fr.ite ?_ ?_
    · exact fμ1
    · refine Fr.ite ?_ ?_
      · refine lt_ (P := fun z => Fr [49, 52] μ z) (whl (fun s : Int32 × Int32 × Mm => bd_X12_again_43  s.1 s.2.1 s.2.2) (fun s : Int32 × Int32 × Mm => s.2.2) FU (p0, 0, μ1)) (fun r8 : Mm => (let μ9 : Mm := (upI r8 49 23 0); μ9)) (fun r8 er8 => ?_)
        have fr8 : Fr [49, 52] μ r8 := by
          rw [er8]
          exact Fr.call fμ1 (fw_X12_again_43  _) (by simp)
        refine lt_ (P := fun z => Fr [49, 52] μ z) ((upI r8 49 23 0)) (fun μ9 : Mm => μ9) (fun μ9 eμ9 => ?_)
        have fμ9 : Fr [49, 52] μ μ9 := by
          rw [eμ9]
          exact Fr.up fr8 (by simp)
        exact fμ9
      · exact fμ1
set_option maxRecDepth 20000 in
set_option maxHeartbeats 400000 in
theorem fr_X12_counted (p0 : Int32) (μ : Mm) : Fr [49, 61] μ (e_X12_counted p0 μ) := by
  unfold e_X12_counted
  refine lt_ (P := fun z => Fr [49, 61] μ z) ((if 0 ≤ p0 then ((e_X12_adds p0 μ)) else μ : Mm)) (fun μ4 : Mm => μ4) (fun μ4 eμ4 => ?_)
  have fμ4 : Fr [49, 61] μ μ4 := by
    rw [eμ4]
    repeat' (first | with_reducible assumption | with_reducible exact Fr.rfl | with_reducible refine Fr.ite ?_ ?_ | with_reducible refine Fr.up ?_ (by simp) | with_reducible refine Fr.upJ ?_ (by simp) | with_reducible refine Fr.call ?_ (fr_X12_adds _ _) (by simp))
  exact fμ4
set_option maxRecDepth 20000 in
set_option maxHeartbeats 400000 in
theorem fw_X12_entersPlaces_2  (s : Int32 × Mm) : Fr [49, 50] (s.2) ((whl (fun s : Int32 × Mm => bd_X12_entersPlaces_2  s.1 s.2) (fun s : Int32 × Mm => s.2) FU s)) := by
  have key : ∀ s : Int32 × Mm, FrS [49, 50] (s.2) (fun s : Int32 × Mm => s.2) (fun r : Mm => r) ((fun s : Int32 × Mm => bd_X12_entersPlaces_2  s.1 s.2) s) := by
    rintro ⟨x1, μ⟩
    show FrS [49, 50] μ (fun s : Int32 × Mm => s.2) (fun r : Mm => r) (bd_X12_entersPlaces_2  x1 μ)
    unfold bd_X12_entersPlaces_2
    refine FrS.ite ?_ ?_
    · exact FrS.inr Fr.rfl
    · refine lt_ (P := fun z => FrS [49, 50] μ (fun s : Int32 × Mm => s.2) (fun r : Mm => r) z) ((e_X12_enters (Int32.toInt64 (100 + (μ.1 53 (Int32.toNatClampNeg (7 + x1))))) μ)) (fun μ4 : Mm => .inl ((x1 + 1), μ4)) (fun μ4 eμ4 => ?_)
      have fμ4 : Fr [49, 50] μ μ4 := by
        rw [eμ4]
        exact Fr.call Fr.rfl (fr_X12_enters (Int32.toInt64 (100 + (μ.1 53 (Int32.toNatClampNeg (7 + x1))))) μ) (by simp)
      exact FrS.inl fμ4
  exact Fr_whlK (S := [49, 50]) (f := (fun s : Int32 × Mm => bd_X12_entersPlaces_2  s.1 s.2)) (dd := (fun s : Int32 × Mm => s.2)) (fun s : Int32 × Mm => s.2) (fun r : Mm => r) (fun _ => rfl) key FU s
set_option maxRecDepth 20000 in
set_option maxHeartbeats 400000 in
theorem fr_X12_entersPlaces  (μ : Mm) : Fr [49, 50] μ (e_X12_entersPlaces  μ) := by
  unfold e_X12_entersPlaces
  refine lt_ (P := fun z => Fr [49, 50] μ z) (whl (fun s : Int32 × Mm => bd_X12_entersPlaces_2  s.1 s.2) (fun s : Int32 × Mm => s.2) FU (0, μ)) (fun r2 : Mm => r2) (fun r2 er2 => ?_)
  have fr2 : Fr [49, 50] μ r2 := by
    rw [er2]
    exact Fr.call Fr.rfl (fw_X12_entersPlaces_2  _) (by simp)
  exact fr2
set_option maxRecDepth 20000 in
set_option maxHeartbeats 400000 in
theorem fr_X12_farthest  (μ : Mm) : Fr [49, 50] μ (e_X12_farthest  μ) := by
  unfold e_X12_farthest
  refine lt_ (P := fun z => Fr [49, 50] μ z) ((upI μ 49 0 0)) (fun μ1 : Mm => (let r3 : Int32 × Int32 × Int32 := whl (fun s : Int32 × Int32 × Int32 × Int32 => bd_X12_farthest_15  μ1 s.1 s.2.1 s.2.2.1 s.2.2.2) (fun _ : Int32 × Int32 × Int32 × Int32 => (0, 0, 0)) FU ((-2), (-1), 0, 0); (let μ10 : Mm := (if (r3.1) < 0 then μ1 else ((e_X12_enters (Int32.toInt64 (r3.2.2)) ((e_X12_enters (Int32.toInt64 (r3.2.1)) ((upI μ1 49 1 0)))))) : Mm); μ10))) (fun μ1 eμ1 => ?_)
  have fμ1 : Fr [49, 50] μ μ1 := by
    rw [eμ1]
    exact Fr.up Fr.rfl (by simp)
  refine lt_ (P := fun z => Fr [49, 50] μ z) (whl (fun s : Int32 × Int32 × Int32 × Int32 => bd_X12_farthest_15  μ1 s.1 s.2.1 s.2.2.1 s.2.2.2) (fun _ : Int32 × Int32 × Int32 × Int32 => (0, 0, 0)) FU ((-2), (-1), 0, 0)) (fun r3 : Int32 × Int32 × Int32 => (let μ10 : Mm := (if (r3.1) < 0 then μ1 else ((e_X12_enters (Int32.toInt64 (r3.2.2)) ((e_X12_enters (Int32.toInt64 (r3.2.1)) ((upI μ1 49 1 0)))))) : Mm); μ10)) (fun r3 er3 => ?_)
  refine lt_ (P := fun z => Fr [49, 50] μ z) ((if (r3.1) < 0 then μ1 else ((e_X12_enters (Int32.toInt64 (r3.2.2)) ((e_X12_enters (Int32.toInt64 (r3.2.1)) ((upI μ1 49 1 0)))))) : Mm)) (fun μ10 : Mm => μ10) (fun μ10 eμ10 => ?_)
  have fμ10 : Fr [49, 50] μ μ10 := by
    rw [eμ10]
    repeat' (first | with_reducible assumption | with_reducible exact Fr.rfl | with_reducible refine Fr.ite ?_ ?_ | with_reducible refine Fr.up ?_ (by simp) | with_reducible refine Fr.upJ ?_ (by simp) | with_reducible refine Fr.call ?_ (fr_X12_enters _ _) (by simp))
  exact fμ10
set_option maxRecDepth 20000 in
set_option maxHeartbeats 400000 in
theorem fw_X12_keep_38  (s : Int32 × Int32 × Mm) : Fr [77] (s.2.2) ((whl (fun s : Int32 × Int32 × Mm => bd_X12_keep_38  s.1 s.2.1 s.2.2) (fun s : Int32 × Int32 × Mm => s.2.2) FU s)) := by
  have key : ∀ s : Int32 × Int32 × Mm, FrS [77] (s.2.2) (fun s : Int32 × Int32 × Mm => s.2.2) (fun r : Mm => r) ((fun s : Int32 × Int32 × Mm => bd_X12_keep_38  s.1 s.2.1 s.2.2) s) := by
    rintro ⟨x1, x2, μ⟩
    show FrS [77] μ (fun s : Int32 × Int32 × Mm => s.2.2) (fun r : Mm => r) (bd_X12_keep_38  x1 x2 μ)
    unfold bd_X12_keep_38
    refine FrS.ite ?_ ?_
    · exact FrS.inr Fr.rfl
    · refine lt_ (P := fun z => FrS [77] μ (fun s : Int32 × Int32 × Mm => s.2.2) (fun r : Mm => r) z) ((upI μ 77 (Int32.toNatClampNeg ((24 * x1) + x2)) (μ.1 52 (Int32.toNatClampNeg x2)))) (fun μ4 : Mm => .inl (x1, (x2 + 1), μ4)) (fun μ4 eμ4 => ?_)
      have fμ4 : Fr [77] μ μ4 := by
        rw [eμ4]
        exact Fr.up Fr.rfl (by simp)
      exact FrS.inl fμ4
  exact Fr_whlK (S := [77]) (f := (fun s : Int32 × Int32 × Mm => bd_X12_keep_38  s.1 s.2.1 s.2.2)) (dd := (fun s : Int32 × Int32 × Mm => s.2.2)) (fun s : Int32 × Int32 × Mm => s.2.2) (fun r : Mm => r) (fun _ => rfl) key FU s
set_option maxRecDepth 20000 in
set_option maxHeartbeats 400000 in
theorem fr_X12_keep (p0 : Int32) (μ : Mm) : Fr [49, 75, 76, 77] μ (e_X12_keep p0 μ) := by
  unfold e_X12_keep
  refine lt_ (P := fun z => Fr [49, 75, 76, 77] μ z) ((upI μ 49 0 0)) (fun μ1 : Mm => (if (v_X12_in (Int32.toInt64 p0) 0 2) = 0 then μ1 else (let μ4 : Mm := (upI μ1 75 (Int32.toNatClampNeg p0) (vp_nar .boolean 1)); (let μ6 : Mm := (upI μ4 76 (Int32.toNatClampNeg p0) (μ4.1 49 4)); (let r8 : Mm := whl (fun s : Int32 × Int32 × Mm => bd_X12_keep_38  s.1 s.2.1 s.2.2) (fun s : Int32 × Int32 × Mm => s.2.2) FU (p0, 0, μ6); r8))))) (fun μ1 eμ1 => ?_)
  have fμ1 : Fr [49, 75, 76, 77] μ μ1 := by
    rw [eμ1]
    exact Fr.up Fr.rfl (by simp)
  refine Fr.ite ?_ ?_
  · exact fμ1
  · refine lt_ (P := fun z => Fr [49, 75, 76, 77] μ z) ((upI μ1 75 (Int32.toNatClampNeg p0) (vp_nar .boolean 1))) (fun μ4 : Mm => (let μ6 : Mm := (upI μ4 76 (Int32.toNatClampNeg p0) (μ4.1 49 4)); (let r8 : Mm := whl (fun s : Int32 × Int32 × Mm => bd_X12_keep_38  s.1 s.2.1 s.2.2) (fun s : Int32 × Int32 × Mm => s.2.2) FU (p0, 0, μ6); r8))) (fun μ4 eμ4 => ?_)
    have fμ4 : Fr [49, 75, 76, 77] μ μ4 := by
      rw [eμ4]
      exact Fr.up fμ1 (by simp)
    refine lt_ (P := fun z => Fr [49, 75, 76, 77] μ z) ((upI μ4 76 (Int32.toNatClampNeg p0) (μ4.1 49 4))) (fun μ6 : Mm => (let r8 : Mm := whl (fun s : Int32 × Int32 × Mm => bd_X12_keep_38  s.1 s.2.1 s.2.2) (fun s : Int32 × Int32 × Mm => s.2.2) FU (p0, 0, μ6); r8)) (fun μ6 eμ6 => ?_)
    have fμ6 : Fr [49, 75, 76, 77] μ μ6 := by
      rw [eμ6]
      exact Fr.up fμ4 (by simp)
    refine lt_ (P := fun z => Fr [49, 75, 76, 77] μ z) (whl (fun s : Int32 × Int32 × Mm => bd_X12_keep_38  s.1 s.2.1 s.2.2) (fun s : Int32 × Int32 × Mm => s.2.2) FU (p0, 0, μ6)) (fun r8 : Mm => r8) (fun r8 er8 => ?_)
    have fr8 : Fr [49, 75, 76, 77] μ r8 := by
      rw [er8]
      exact Fr.call fμ6 (fw_X12_keep_38  _) (by simp)
    exact fr8
set_option maxRecDepth 20000 in
set_option maxHeartbeats 400000 in
theorem fw_X12_plank_43  (s : Int32 × Int32 × Int32 × Int32 × Mm) : Fr [73] (s.2.2.2.2) ((whl (fun s : Int32 × Int32 × Int32 × Int32 × Mm => bd_X12_plank_43  s.1 s.2.1 s.2.2.1 s.2.2.2.1 s.2.2.2.2) (fun s : Int32 × Int32 × Int32 × Int32 × Mm => (0, 0, 0, s.2.2.2.2)) FU s).2.2.2) := by
  have key : ∀ s : Int32 × Int32 × Int32 × Int32 × Mm, FrS [73] (s.2.2.2.2) (fun s : Int32 × Int32 × Int32 × Int32 × Mm => s.2.2.2.2) (fun r : Int32 × Int32 × Int32 × Mm => r.2.2.2) ((fun s : Int32 × Int32 × Int32 × Int32 × Mm => bd_X12_plank_43  s.1 s.2.1 s.2.2.1 s.2.2.2.1 s.2.2.2.2) s) := by
    rintro ⟨x1, x2, x3, x4, μ⟩
    show FrS [73] μ (fun s : Int32 × Int32 × Int32 × Int32 × Mm => s.2.2.2.2) (fun r : Int32 × Int32 × Int32 × Mm => r.2.2.2) (bd_X12_plank_43  x1 x2 x3 x4 μ)
    unfold bd_X12_plank_43
    refine FrS.ite ?_ ?_
    · exact FrS.inr Fr.rfl
    · refine lt_ (P := fun z => FrS [73] μ (fun s : Int32 × Int32 × Int32 × Int32 × Mm => s.2.2.2.2) (fun r : Int32 × Int32 × Int32 × Mm => r.2.2.2) z) (whl (fun s : Int32 × Int32 × Int32 × Int32 × Int32 × Int32 => bd_X12_plank_60  μ s.1 s.2.1 s.2.2.1 s.2.2.2.1 s.2.2.2.2.1 s.2.2.2.2.2) (fun _ : Int32 × Int32 × Int32 × Int32 × Int32 × Int32 => (0, 0, 0, 0, 0)) FU (x1, x2, x3, x4, 0, (if x3 < x2 then x3 else x2))) (fun r3 : Int32 × Int32 × Int32 × Int32 × Int32 => (let μ5 : Mm := (upI μ 73 (Int32.toNatClampNeg ((10 * (r3.2.2.1)) + (r3.2.2.2.1))) (r3.2.2.2.2)); .inl ((r3.1), (r3.2.1), (r3.2.2.1), ((r3.2.2.2.1) + 1), μ5))) (fun r3 er3 => ?_)
      refine lt_ (P := fun z => FrS [73] μ (fun s : Int32 × Int32 × Int32 × Int32 × Mm => s.2.2.2.2) (fun r : Int32 × Int32 × Int32 × Mm => r.2.2.2) z) ((upI μ 73 (Int32.toNatClampNeg ((10 * (r3.2.2.1)) + (r3.2.2.2.1))) (r3.2.2.2.2))) (fun μ5 : Mm => .inl ((r3.1), (r3.2.1), (r3.2.2.1), ((r3.2.2.2.1) + 1), μ5)) (fun μ5 eμ5 => ?_)
      have fμ5 : Fr [73] μ μ5 := by
        rw [eμ5]
        exact Fr.up Fr.rfl (by simp)
      exact FrS.inl fμ5
  exact Fr_whlK (S := [73]) (f := (fun s : Int32 × Int32 × Int32 × Int32 × Mm => bd_X12_plank_43  s.1 s.2.1 s.2.2.1 s.2.2.2.1 s.2.2.2.2)) (dd := (fun s : Int32 × Int32 × Int32 × Int32 × Mm => (0, 0, 0, s.2.2.2.2))) (fun s : Int32 × Int32 × Int32 × Int32 × Mm => s.2.2.2.2) (fun r : Int32 × Int32 × Int32 × Mm => r.2.2.2) (fun _ => rfl) key FU s
set_option maxRecDepth 20000 in
set_option maxHeartbeats 400000 in
theorem fw_X12_plank_35  (s : Int32 × Int32 × Int32 × Mm) : Fr [73] (s.2.2.2) ((whl (fun s : Int32 × Int32 × Int32 × Mm => bd_X12_plank_35  s.1 s.2.1 s.2.2.1 s.2.2.2) (fun s : Int32 × Int32 × Int32 × Mm => (0, s.2.2.2)) FU s).2) := by
  have key : ∀ s : Int32 × Int32 × Int32 × Mm, FrS [73] (s.2.2.2) (fun s : Int32 × Int32 × Int32 × Mm => s.2.2.2) (fun r : Int32 × Mm => r.2) ((fun s : Int32 × Int32 × Int32 × Mm => bd_X12_plank_35  s.1 s.2.1 s.2.2.1 s.2.2.2) s) := by
    rintro ⟨x1, x2, x3, μ⟩
    show FrS [73] μ (fun s : Int32 × Int32 × Int32 × Mm => s.2.2.2) (fun r : Int32 × Mm => r.2) (bd_X12_plank_35  x1 x2 x3 μ)
    unfold bd_X12_plank_35
    refine FrS.ite ?_ ?_
    · exact FrS.inr Fr.rfl
    · refine lt_ (P := fun z => FrS [73] μ (fun s : Int32 × Int32 × Int32 × Mm => s.2.2.2) (fun r : Int32 × Mm => r.2) z) (whl (fun s : Int32 × Int32 × Int32 × Int32 × Mm => bd_X12_plank_43  s.1 s.2.1 s.2.2.1 s.2.2.2.1 s.2.2.2.2) (fun s : Int32 × Int32 × Int32 × Int32 × Mm => (0, 0, 0, s.2.2.2.2)) FU (x1, x2, x3, 0, μ)) (fun r3 : Int32 × Int32 × Int32 × Mm => .inl ((r3.1), (r3.2.1), ((r3.2.2.1) + 1), (r3.2.2.2))) (fun r3 er3 => ?_)
      have fr3 : Fr [73] μ (r3.2.2.2) := by
        rw [er3]
        exact Fr.call Fr.rfl (fw_X12_plank_43  _) (by simp)
      exact FrS.inl fr3
  exact Fr_whlK (S := [73]) (f := (fun s : Int32 × Int32 × Int32 × Mm => bd_X12_plank_35  s.1 s.2.1 s.2.2.1 s.2.2.2)) (dd := (fun s : Int32 × Int32 × Int32 × Mm => (0, s.2.2.2))) (fun s : Int32 × Int32 × Int32 × Mm => s.2.2.2) (fun r : Int32 × Mm => r.2) (fun _ => rfl) key FU s
set_option maxRecDepth 20000 in
set_option maxHeartbeats 400000 in
theorem fr_X12_plank (p0 : Int32) (p1 : Int32) (μ : Mm) : Fr [49, 73] μ (e_X12_plank p0 p1 μ) := by
  unfold e_X12_plank
  refine lt_ (P := fun z => Fr [49, 73] μ z) ((upI μ 49 0 0)) (fun μ1 : Mm => (if (v_X12_in (Int32.toInt64 p0) 0 60) = 0 then μ1 else (if (v_X12_in (Int32.toInt64 p1) 2 9) = 0 then μ1 else (let r5 : Int32 × Mm := whl (fun s : Int32 × Int32 × Int32 × Mm => bd_X12_plank_35  s.1 s.2.1 s.2.2.1 s.2.2.2) (fun s : Int32 × Int32 × Int32 × Mm => (0, s.2.2.2)) FU (p0, p1, 0, μ1); (r5.2))))) (fun μ1 eμ1 => ?_)
  have fμ1 : Fr [49, 73] μ μ1 := by
    rw [eμ1]
    exact Fr.up Fr.rfl (by simp)
  refine Fr.ite ?_ ?_
  · exact fμ1
  · refine Fr.ite ?_ ?_
    · exact fμ1
    · refine lt_ (P := fun z => Fr [49, 73] μ z) (whl (fun s : Int32 × Int32 × Int32 × Mm => bd_X12_plank_35  s.1 s.2.1 s.2.2.1 s.2.2.2) (fun s : Int32 × Int32 × Int32 × Mm => (0, s.2.2.2)) FU (p0, p1, 0, μ1)) (fun r5 : Int32 × Mm => (r5.2)) (fun r5 er5 => ?_)
      have fr5 : Fr [49, 73] μ (r5.2) := by
        rw [er5]
        exact Fr.call fμ1 (fw_X12_plank_35  _) (by simp)
      exact fr5
set_option maxRecDepth 20000 in
set_option maxHeartbeats 400000 in
theorem fw_X12_sheet_46  (s : Int32 × Int32 × Int32 × Int32 × Int32 × Int32 × Mm) : Fr [51] (s.2.2.2.2.2.2) ((whl (fun s : Int32 × Int32 × Int32 × Int32 × Int32 × Int32 × Mm => bd_X12_sheet_46  s.1 s.2.1 s.2.2.1 s.2.2.2.1 s.2.2.2.2.1 s.2.2.2.2.2.1 s.2.2.2.2.2.2) (fun s : Int32 × Int32 × Int32 × Int32 × Int32 × Int32 × Mm => (0, 0, s.2.2.2.2.2.2)) FU s).2.2) := by
  have key : ∀ s : Int32 × Int32 × Int32 × Int32 × Int32 × Int32 × Mm, FrS [51] (s.2.2.2.2.2.2) (fun s : Int32 × Int32 × Int32 × Int32 × Int32 × Int32 × Mm => s.2.2.2.2.2.2) (fun r : Int32 × Int32 × Mm => r.2.2) ((fun s : Int32 × Int32 × Int32 × Int32 × Int32 × Int32 × Mm => bd_X12_sheet_46  s.1 s.2.1 s.2.2.1 s.2.2.2.1 s.2.2.2.2.1 s.2.2.2.2.2.1 s.2.2.2.2.2.2) s) := by
    rintro ⟨x1, x2, x4, x5, x6, x7, μ⟩
    show FrS [51] μ (fun s : Int32 × Int32 × Int32 × Int32 × Int32 × Int32 × Mm => s.2.2.2.2.2.2) (fun r : Int32 × Int32 × Mm => r.2.2) (bd_X12_sheet_46  x1 x2 x4 x5 x6 x7 μ)
    unfold bd_X12_sheet_46
    refine FrS.ite ?_ ?_
    · exact FrS.inr Fr.rfl
    · refine lt_ (P := fun z => FrS [51] μ (fun s : Int32 × Int32 × Int32 × Int32 × Int32 × Int32 × Mm => s.2.2.2.2.2.2) (fun r : Int32 × Int32 × Mm => r.2.2) z) ((upI μ 51 (Int32.toNatClampNeg x7) (if x1 = 3 then 1 else (if x7 < x2 then (if 1 < (if (if x1 = 0 then (Int32.toInt8 x6).toInt32 else (if x1 = 1 then (Int32.toInt16 x6).toInt32 else x6 : Int32) : Int32) < 9 then (if x1 = 0 then (Int32.toInt8 x6).toInt32 else (if x1 = 1 then (Int32.toInt16 x6).toInt32 else x6 : Int32) : Int32) else 9) then (if (if x1 = 0 then (Int32.toInt8 x6).toInt32 else (if x1 = 1 then (Int32.toInt16 x6).toInt32 else x6 : Int32) : Int32) < 9 then (if x1 = 0 then (Int32.toInt8 x6).toInt32 else (if x1 = 1 then (Int32.toInt16 x6).toInt32 else x6 : Int32) : Int32) else 9) else 1) else 1 : Int32) : Int32))) (fun μ9 : Mm => .inl (x1, x2, x4, (x5 + (μ9.1 51 (Int32.toNatClampNeg x7))), (x6 + x4), (x7 + 1), μ9)) (fun μ9 eμ9 => ?_)
      have fμ9 : Fr [51] μ μ9 := by
        rw [eμ9]
        exact Fr.up Fr.rfl (by simp)
      exact FrS.inl fμ9
  exact Fr_whlK (S := [51]) (f := (fun s : Int32 × Int32 × Int32 × Int32 × Int32 × Int32 × Mm => bd_X12_sheet_46  s.1 s.2.1 s.2.2.1 s.2.2.2.1 s.2.2.2.2.1 s.2.2.2.2.2.1 s.2.2.2.2.2.2)) (dd := (fun s : Int32 × Int32 × Int32 × Int32 × Int32 × Int32 × Mm => (0, 0, s.2.2.2.2.2.2))) (fun s : Int32 × Int32 × Int32 × Int32 × Int32 × Int32 × Mm => s.2.2.2.2.2.2) (fun r : Int32 × Int32 × Mm => r.2.2) (fun _ => rfl) key FU s
set_option maxRecDepth 20000 in
set_option maxHeartbeats 400000 in
theorem fr_X12_sheet (p0 : Int32) (p1 : Int32) (p2 : Int32) (p3 : Int32) (μ : Mm) : Fr [49, 51] μ (e_X12_sheet p0 p1 p2 p3 μ) := by
  unfold e_X12_sheet
  refine lt_ (P := fun z => Fr [49, 51] μ z) ((upI μ 49 0 0)) (fun μ1 : Mm => (if (v_X12_in (Int32.toInt64 p0) 0 3) = 0 then μ1 else (if p1 ≤ 7 then (if p0 = 3 then (let r6 : Int32 × Int32 × Mm := whl (fun s : Int32 × Int32 × Int32 × Int32 × Int32 × Int32 × Mm => bd_X12_sheet_46  s.1 s.2.1 s.2.2.1 s.2.2.2.1 s.2.2.2.2.1 s.2.2.2.2.2.1 s.2.2.2.2.2.2) (fun s : Int32 × Int32 × Int32 × Int32 × Int32 × Int32 × Mm => (0, 0, s.2.2.2.2.2.2)) FU (p0, p1, p3, 0, p2, 0, μ1); (r6.2.2)) else (if 0 ≤ p1 then (let r11 : Int32 × Int32 × Mm := whl (fun s : Int32 × Int32 × Int32 × Int32 × Int32 × Int32 × Mm => bd_X12_sheet_46  s.1 s.2.1 s.2.2.1 s.2.2.2.1 s.2.2.2.2.1 s.2.2.2.2.2.1 s.2.2.2.2.2.2) (fun s : Int32 × Int32 × Int32 × Int32 × Int32 × Int32 × Mm => (0, 0, s.2.2.2.2.2.2)) FU (p0, p1, p3, 0, p2, 0, μ1); (r11.2.2)) else μ1)) else μ1))) (fun μ1 eμ1 => ?_)
  have fμ1 : Fr [49, 51] μ μ1 := by
    rw [eμ1]
    exact Fr.up Fr.rfl (by simp)
  refine Fr.ite ?_ ?_
  · exact fμ1
  · refine Fr.ite ?_ ?_
    · refine Fr.ite ?_ ?_
      · refine lt_ (P := fun z => Fr [49, 51] μ z) (whl (fun s : Int32 × Int32 × Int32 × Int32 × Int32 × Int32 × Mm => bd_X12_sheet_46  s.1 s.2.1 s.2.2.1 s.2.2.2.1 s.2.2.2.2.1 s.2.2.2.2.2.1 s.2.2.2.2.2.2) (fun s : Int32 × Int32 × Int32 × Int32 × Int32 × Int32 × Mm => (0, 0, s.2.2.2.2.2.2)) FU (p0, p1, p3, 0, p2, 0, μ1)) (fun r6 : Int32 × Int32 × Mm => (r6.2.2)) (fun r6 er6 => ?_)
        have fr6 : Fr [49, 51] μ (r6.2.2) := by
          rw [er6]
          exact Fr.call fμ1 (fw_X12_sheet_46  _) (by simp)
        exact fr6
      · refine Fr.ite ?_ ?_
        · refine lt_ (P := fun z => Fr [49, 51] μ z) (whl (fun s : Int32 × Int32 × Int32 × Int32 × Int32 × Int32 × Mm => bd_X12_sheet_46  s.1 s.2.1 s.2.2.1 s.2.2.2.1 s.2.2.2.2.1 s.2.2.2.2.2.1 s.2.2.2.2.2.2) (fun s : Int32 × Int32 × Int32 × Int32 × Int32 × Int32 × Mm => (0, 0, s.2.2.2.2.2.2)) FU (p0, p1, p3, 0, p2, 0, μ1)) (fun r11 : Int32 × Int32 × Mm => (r11.2.2)) (fun r11 er11 => ?_)
          have fr11 : Fr [49, 51] μ (r11.2.2) := by
            rw [er11]
            exact Fr.call fμ1 (fw_X12_sheet_46  _) (by simp)
          exact fr11
        · exact fμ1
    · exact fμ1
set_option maxRecDepth 20000 in
set_option maxHeartbeats 400000 in
theorem fr_X3_back (p0 : Nat) (μ : Mm) : Fr [(p0 + 2), (p0 + 3), (p0 + 4), 29, p0] μ (e_X3_back p0 μ) := by
  unfold e_X3_back
  refine Fr.ite ?_ ?_
  · exact Fr.rfl
  · refine lt_ (P := fun z => Fr [(p0 + 2), (p0 + 3), (p0 + 4), 29, p0] μ z) ((upI μ 29 1 ((((μ.1 29 1) + 16) - 1) - (((μ.1 29 1) + 16) - 1) / 16 * 16))) (fun μ2 : Mm => (let μ3 : Mm := (upI μ2 29 2 ((μ2.1 29 2) - 1)); (let μ5 : Mm := (e_X1_readFrom p0 30 384 ((μ3.1 29 1) * 24) μ3); μ5))) (fun μ2 eμ2 => ?_)
    have fμ2 : Fr [(p0 + 2), (p0 + 3), (p0 + 4), 29, p0] μ μ2 := by
      rw [eμ2]
      exact Fr.up Fr.rfl (by simp)
    refine lt_ (P := fun z => Fr [(p0 + 2), (p0 + 3), (p0 + 4), 29, p0] μ z) ((upI μ2 29 2 ((μ2.1 29 2) - 1))) (fun μ3 : Mm => (let μ5 : Mm := (e_X1_readFrom p0 30 384 ((μ3.1 29 1) * 24) μ3); μ5)) (fun μ3 eμ3 => ?_)
    have fμ3 : Fr [(p0 + 2), (p0 + 3), (p0 + 4), 29, p0] μ μ3 := by
      rw [eμ3]
      exact Fr.up fμ2 (by simp)
    refine lt_ (P := fun z => Fr [(p0 + 2), (p0 + 3), (p0 + 4), 29, p0] μ z) ((e_X1_readFrom p0 30 384 ((μ3.1 29 1) * 24) μ3)) (fun μ5 : Mm => μ5) (fun μ5 eμ5 => ?_)
    have fμ5 : Fr [(p0 + 2), (p0 + 3), (p0 + 4), 29, p0] μ μ5 := by
      rw [eμ5]
      exact Fr.call fμ3 (fr_X1_readFrom p0 30 384 ((μ3.1 29 1) * 24) μ3) (by simp)
    exact fμ5
set_option maxRecDepth 20000 in
set_option maxHeartbeats 400000 in
theorem fr_X3_note (p0 : Nat) (μ : Mm) : Fr [30] μ (e_X3_note p0 μ) := by
  unfold e_X3_note
  refine lt_ (P := fun z => Fr [30] μ z) ((e_X1_writeTo p0 30 384 ((μ.1 29 1) * 24) μ)) (fun μ2 : Mm => μ2) (fun μ2 eμ2 => ?_)
  have fμ2 : Fr [30] μ μ2 := by
    rw [eμ2]
    exact Fr.call Fr.rfl (fr_X1_writeTo p0 30 384 ((μ.1 29 1) * 24) μ) (by simp)
  exact fμ2
set_option maxRecDepth 20000 in
set_option maxHeartbeats 400000 in
theorem fr_X3_shelve (p0 : Int32) (p1 : Nat) (μ : Mm) : Fr [31, 32] μ (e_X3_shelve p0 p1 μ) := by
  unfold e_X3_shelve
  refine Fr.ite ?_ ?_
  · exact Fr.rfl
  · refine Fr.ite ?_ ?_
    · refine lt_ (P := fun z => Fr [31, 32] μ z) ((e_X1_writeTo p1 31 72 (p0 * 24) μ)) (fun μ4 : Mm => (let μ6 : Mm := (upI μ4 32 (Int32.toNatClampNeg p0) (vp_nar .boolean 1)); μ6)) (fun μ4 eμ4 => ?_)
      have fμ4 : Fr [31, 32] μ μ4 := by
        rw [eμ4]
        exact Fr.call Fr.rfl (fr_X1_writeTo p1 31 72 (p0 * 24) μ) (by simp)
      refine lt_ (P := fun z => Fr [31, 32] μ z) ((upI μ4 32 (Int32.toNatClampNeg p0) (vp_nar .boolean 1))) (fun μ6 : Mm => μ6) (fun μ6 eμ6 => ?_)
      have fμ6 : Fr [31, 32] μ μ6 := by
        rw [eμ6]
        exact Fr.up fμ4 (by simp)
      exact fμ6
    · exact Fr.rfl
set_option maxRecDepth 20000 in
set_option maxHeartbeats 400000 in
theorem fr_X3_takeDown (p0 : Int32) (p1 : Nat) (μ : Mm) : Fr [(p1 + 2), (p1 + 3), (p1 + 4), 29, p1] μ (e_X3_takeDown p0 p1 μ) := by
  unfold e_X3_takeDown
  refine Fr.ite ?_ ?_
  · exact Fr.rfl
  · refine Fr.ite ?_ ?_
    · exact Fr.rfl
    · refine Fr.ite ?_ ?_
      · exact Fr.rfl
      · refine lt_ (P := fun z => Fr [(p1 + 2), (p1 + 3), (p1 + 4), 29, p1] μ z) ((e_X1_readFrom p1 31 72 (p0 * 24) μ)) (fun μ6 : Mm => (let μ7 : Mm := (upI μ6 29 2 0); μ7)) (fun μ6 eμ6 => ?_)
        have fμ6 : Fr [(p1 + 2), (p1 + 3), (p1 + 4), 29, p1] μ μ6 := by
          rw [eμ6]
          exact Fr.call Fr.rfl (fr_X1_readFrom p1 31 72 (p0 * 24) μ) (by simp)
        refine lt_ (P := fun z => Fr [(p1 + 2), (p1 + 3), (p1 + 4), 29, p1] μ z) ((upI μ6 29 2 0)) (fun μ7 : Mm => μ7) (fun μ7 eμ7 => ?_)
        have fμ7 : Fr [(p1 + 2), (p1 + 3), (p1 + 4), 29, p1] μ μ7 := by
          rw [eμ7]
          exact Fr.up fμ6 (by simp)
        exact fμ7
set_option maxRecDepth 20000 in
set_option maxHeartbeats 400000 in
theorem fw_X5_emitWaiting_2 (b : Nat) (s : Int32 × Int32 × Mm) : Fr [(b + 1), (b + 3), b] (s.2.2) ((whl (fun s : Int32 × Int32 × Mm => bd_X5_emitWaiting_2 b s.1 s.2.1 s.2.2) (fun s : Int32 × Int32 × Mm => s.2.2) FU s)) := by
  have key : ∀ s : Int32 × Int32 × Mm, FrS [(b + 1), (b + 3), b] (s.2.2) (fun s : Int32 × Int32 × Mm => s.2.2) (fun r : Mm => r) ((fun s : Int32 × Int32 × Mm => bd_X5_emitWaiting_2 b s.1 s.2.1 s.2.2) s) := by
    rintro ⟨x1, x2, μ⟩
    show FrS [(b + 1), (b + 3), b] μ (fun s : Int32 × Int32 × Mm => s.2.2) (fun r : Mm => r) (bd_X5_emitWaiting_2 b x1 x2 μ)
    unfold bd_X5_emitWaiting_2
    refine FrS.ite ?_ ?_
    · exact FrS.inr Fr.rfl
    · refine FrS.ite ?_ ?_
      · exact FrS.inr Fr.rfl
      · refine lt_ (P := fun z => FrS [(b + 1), (b + 3), b] μ (fun s : Int32 × Int32 × Mm => s.2.2) (fun r : Mm => r) z) ((e_X4_pop (b + 3) μ)) (fun μ5 : Mm => (let μ7 : Mm := (e_X5_emit b (-(v_X4_pop (b + 3) μ)) μ5); .inl (x1, (x2 + 1), μ7))) (fun μ5 eμ5 => ?_)
        have fμ5 : Fr [(b + 1), (b + 3), b] μ μ5 := by
          rw [eμ5]
          exact Fr.call Fr.rfl (fr_X4_pop (b + 3) μ) (by simp)
        refine lt_ (P := fun z => FrS [(b + 1), (b + 3), b] μ (fun s : Int32 × Int32 × Mm => s.2.2) (fun r : Mm => r) z) ((e_X5_emit b (-(v_X4_pop (b + 3) μ)) μ5)) (fun μ7 : Mm => .inl (x1, (x2 + 1), μ7)) (fun μ7 eμ7 => ?_)
        have fμ7 : Fr [(b + 1), (b + 3), b] μ μ7 := by
          rw [eμ7]
          exact Fr.call fμ5 (fr_X5_emit b (-(v_X4_pop (b + 3) μ)) μ5) (by simp)
        exact FrS.inl fμ7
  exact Fr_whlK (S := [(b + 1), (b + 3), b]) (f := (fun s : Int32 × Int32 × Mm => bd_X5_emitWaiting_2 b s.1 s.2.1 s.2.2)) (dd := (fun s : Int32 × Int32 × Mm => s.2.2)) (fun s : Int32 × Int32 × Mm => s.2.2) (fun r : Mm => r) (fun _ => rfl) key FU s
set_option maxRecDepth 20000 in
set_option maxHeartbeats 400000 in
theorem fr_X5_emitWaiting (b : Nat) (p0 : Int32) (μ : Mm) : Fr [(b + 1), (b + 3), b] μ (e_X5_emitWaiting b p0 μ) := by
  unfold e_X5_emitWaiting
  refine lt_ (P := fun z => Fr [(b + 1), (b + 3), b] μ z) (whl (fun s : Int32 × Int32 × Mm => bd_X5_emitWaiting_2 b s.1 s.2.1 s.2.2) (fun s : Int32 × Int32 × Mm => s.2.2) FU (p0, 0, μ)) (fun r2 : Mm => r2) (fun r2 er2 => ?_)
  have fr2 : Fr [(b + 1), (b + 3), b] μ r2 := by
    rw [er2]
    exact Fr.call Fr.rfl (fw_X5_emitWaiting_2 b _) (by simp)
  exact fr2
set_option maxRecDepth 20000 in
set_option maxHeartbeats 400000 in
theorem fw_X5_value_4 (b : Nat) (p0 : Nat) (s : Int32 × Int32 × Mm) : Fr [(b + 2)] (s.2.2) ((whl (fun s : Int32 × Int32 × Mm => bd_X5_value_4 b p0 s.1 s.2.1 s.2.2) (fun s : Int32 × Int32 × Mm => (0, s.2.2)) FU s).2) := by
  have key : ∀ s : Int32 × Int32 × Mm, FrS [(b + 2)] (s.2.2) (fun s : Int32 × Int32 × Mm => s.2.2) (fun r : Int32 × Mm => r.2) ((fun s : Int32 × Int32 × Mm => bd_X5_value_4 b p0 s.1 s.2.1 s.2.2) s) := by
    rintro ⟨x2, x3, μ⟩
    show FrS [(b + 2)] μ (fun s : Int32 × Int32 × Mm => s.2.2) (fun r : Int32 × Mm => r.2) (bd_X5_value_4 b p0 x2 x3 μ)
    unfold bd_X5_value_4
    refine FrS.ite ?_ ?_
    · exact FrS.inr Fr.rfl
    · refine FrS.ite ?_ ?_
      · exact FrS.inr Fr.rfl
      · refine lt_ (P := fun z => FrS [(b + 2)] μ (fun s : Int32 × Int32 × Mm => s.2.2) (fun r : Int32 × Mm => r.2) z) ((if (μ.1 (b + 1) (Int32.toNatClampNeg x3)) < (-7) then (if (μ.1 (b + 1) (Int32.toNatClampNeg x3)) = (-126) then (if x2 ≤ 0 then μ else ((upI μ (b + 2) (Int32.toNatClampNeg (x2 - 1)) (-(μ.1 (b + 2) (Int32.toNatClampNeg (x2 - 1)))))) : Mm) else (if x2 ≤ 1 then μ else ((upI μ (b + 2) (Int32.toNatClampNeg ((x2 + (-1)) - 1)) (v_X5_done (-(μ.1 (b + 1) (Int32.toNatClampNeg x3))) (μ.1 (b + 2) (Int32.toNatClampNeg ((x2 + (-1)) - 1))) (μ.1 (b + 2) (Int32.toNatClampNeg (x2 + (-1))))))) : Mm) : Mm) else (if (Int32.ofNat 41) ≤ x2 then μ else (if (Int32.ofNat 7) ≤ ((-1) - (μ.1 (b + 1) (Int32.toNatClampNeg x3))) then μ else ((upI μ (b + 2) (Int32.toNatClampNeg x2) (if (μ.1 (b + 1) (Int32.toNatClampNeg x3)) < 0 then (μ.1 p0 (Int32.toNatClampNeg ((-1) - (μ.1 (b + 1) (Int32.toNatClampNeg x3))))) else (μ.1 (b + 1) (Int32.toNatClampNeg x3)) : Int32))) : Mm) : Mm) : Mm)) (fun μ23 : Mm => .inl ((if (μ.1 (b + 1) (Int32.toNatClampNeg x3)) < (-7) then (if (μ.1 (b + 1) (Int32.toNatClampNeg x3)) = (-126) then x2 else (if x2 ≤ 1 then x2 else (x2 + (-1)) : Int32) : Int32) else (if (Int32.ofNat 41) ≤ x2 then x2 else (if (Int32.ofNat 7) ≤ ((-1) - (μ.1 (b + 1) (Int32.toNatClampNeg x3))) then x2 else (x2 + 1) : Int32) : Int32) : Int32), (x3 + 1), μ23)) (fun μ23 eμ23 => ?_)
        have fμ23 : Fr [(b + 2)] μ μ23 := by
          rw [eμ23]
          repeat' (first | with_reducible assumption | with_reducible exact Fr.rfl | with_reducible refine Fr.ite ?_ ?_ | with_reducible refine Fr.up ?_ (by simp) | with_reducible refine Fr.upJ ?_ (by simp))
        exact FrS.inl fμ23
  exact Fr_whlK (S := [(b + 2)]) (f := (fun s : Int32 × Int32 × Mm => bd_X5_value_4 b p0 s.1 s.2.1 s.2.2)) (dd := (fun s : Int32 × Int32 × Mm => (0, s.2.2))) (fun s : Int32 × Int32 × Mm => s.2.2) (fun r : Int32 × Mm => r.2) (fun _ => rfl) key FU s
set_option maxRecDepth 20000 in
set_option maxHeartbeats 400000 in
theorem fr_X5_value (b : Nat) (p0 : Nat) (μ : Mm) : Fr [(b + 2)] μ (e_X5_value b p0 μ) := by
  unfold e_X5_value
  refine lt_ (P := fun z => Fr [(b + 2)] μ z) (whl (fun s : Int32 × Int32 × Mm => bd_X5_value_4 b p0 s.1 s.2.1 s.2.2) (fun s : Int32 × Int32 × Mm => (0, s.2.2)) FU (0, 0, μ)) (fun r2 : Int32 × Mm => (r2.2)) (fun r2 er2 => ?_)
  have fr2 : Fr [(b + 2)] μ (r2.2) := by
    rw [er2]
    exact Fr.call Fr.rfl (fw_X5_value_4 b p0 _) (by simp)
  exact fr2
set_option maxRecDepth 20000 in
set_option maxHeartbeats 400000 in
theorem fr_X11_again (p0 : Int32) (μ : Mm) : Fr [1, 29, 3, 4, 5] μ (e_X11_again p0 μ) := by
  unfold e_X11_again
  refine lt_ (P := fun z => Fr [1, 29, 3, 4, 5] μ z) ((e_X3_takeDown p0 1 μ)) (fun μ2 : Mm => μ2) (fun μ2 eμ2 => ?_)
  have fμ2 : Fr [1, 29, 3, 4, 5] μ μ2 := by
    rw [eμ2]
    exact Fr.call Fr.rfl (fr_X3_takeDown p0 1 μ) (by simp)
  exact fμ2
set_option maxRecDepth 20000 in
set_option maxHeartbeats 400000 in
theorem fw_X11_crossings_32  (s : Int32 × Int32 × Int32 × Int32 × Mm) : Fr [27, 28] (s.2.2.2.2) ((whl (fun s : Int32 × Int32 × Int32 × Int32 × Mm => bd_X11_crossings_32  s.1 s.2.1 s.2.2.1 s.2.2.2.1 s.2.2.2.2) (fun s : Int32 × Int32 × Int32 × Int32 × Mm => (0, 0, 0, s.2.2.2.2)) FU s).2.2.2) := by
  have key : ∀ s : Int32 × Int32 × Int32 × Int32 × Mm, FrS [27, 28] (s.2.2.2.2) (fun s : Int32 × Int32 × Int32 × Int32 × Mm => s.2.2.2.2) (fun r : Int32 × Int32 × Int32 × Mm => r.2.2.2) ((fun s : Int32 × Int32 × Int32 × Int32 × Mm => bd_X11_crossings_32  s.1 s.2.1 s.2.2.1 s.2.2.2.1 s.2.2.2.2) s) := by
    rintro ⟨x1, x2, x3, x4, μ⟩
    show FrS [27, 28] μ (fun s : Int32 × Int32 × Int32 × Int32 × Mm => s.2.2.2.2) (fun r : Int32 × Int32 × Int32 × Mm => r.2.2.2) (bd_X11_crossings_32  x1 x2 x3 x4 μ)
    unfold bd_X11_crossings_32
    refine FrS.ite ?_ ?_
    · exact FrS.inr Fr.rfl
    · refine lt_ (P := fun z => FrS [27, 28] μ (fun s : Int32 × Int32 × Int32 × Int32 × Mm => s.2.2.2.2) (fun r : Int32 × Int32 × Int32 × Mm => r.2.2.2) z) ((if (v_X11_isBest x3 x4 x1 μ) = 0 then μ else (if (v_X11_isBest x4 x3 x1 μ) = 0 then μ else ((if x2 = 0 then ((e_X10_add (Int32.toInt64 x4) ((e_X10_add (Int32.toInt64 x3) μ)))) else μ : Mm)) : Mm) : Mm)) (fun μ13 : Mm => .inl (x1, (if (v_X11_isBest x3 x4 x1 μ) = 0 then x2 else (if (v_X11_isBest x4 x3 x1 μ) = 0 then x2 else (x2 + 1) : Int32) : Int32), x3, (x4 + 1), μ13)) (fun μ13 eμ13 => ?_)
      have fμ13 : Fr [27, 28] μ μ13 := by
        rw [eμ13]
        repeat' (first | with_reducible assumption | with_reducible exact Fr.rfl | with_reducible refine Fr.ite ?_ ?_ | with_reducible refine Fr.up ?_ (by simp) | with_reducible refine Fr.upJ ?_ (by simp) | with_reducible refine Fr.call ?_ (fr_X10_add _ _) (by simp) | with_reducible refine Fr.call ?_ (fr_X10_begin _) (by simp))
      exact FrS.inl fμ13
  exact Fr_whlK (S := [27, 28]) (f := (fun s : Int32 × Int32 × Int32 × Int32 × Mm => bd_X11_crossings_32  s.1 s.2.1 s.2.2.1 s.2.2.2.1 s.2.2.2.2)) (dd := (fun s : Int32 × Int32 × Int32 × Int32 × Mm => (0, 0, 0, s.2.2.2.2))) (fun s : Int32 × Int32 × Int32 × Int32 × Mm => s.2.2.2.2) (fun r : Int32 × Int32 × Int32 × Mm => r.2.2.2) (fun _ => rfl) key FU s
set_option maxRecDepth 20000 in
set_option maxHeartbeats 400000 in
theorem fw_X11_crossings_23  (s : Int32 × Int32 × Int32 × Mm) : Fr [27, 28] (s.2.2.2) ((whl (fun s : Int32 × Int32 × Int32 × Mm => bd_X11_crossings_23  s.1 s.2.1 s.2.2.1 s.2.2.2) (fun s : Int32 × Int32 × Int32 × Mm => (0, s.2.2.2)) FU s).2) := by
  have key : ∀ s : Int32 × Int32 × Int32 × Mm, FrS [27, 28] (s.2.2.2) (fun s : Int32 × Int32 × Int32 × Mm => s.2.2.2) (fun r : Int32 × Mm => r.2) ((fun s : Int32 × Int32 × Int32 × Mm => bd_X11_crossings_23  s.1 s.2.1 s.2.2.1 s.2.2.2) s) := by
    rintro ⟨x1, x2, x3, μ⟩
    show FrS [27, 28] μ (fun s : Int32 × Int32 × Int32 × Mm => s.2.2.2) (fun r : Int32 × Mm => r.2) (bd_X11_crossings_23  x1 x2 x3 μ)
    unfold bd_X11_crossings_23
    refine FrS.ite ?_ ?_
    · exact FrS.inr Fr.rfl
    · refine lt_ (P := fun z => FrS [27, 28] μ (fun s : Int32 × Int32 × Int32 × Mm => s.2.2.2) (fun r : Int32 × Mm => r.2) z) (whl (fun s : Int32 × Int32 × Int32 × Int32 × Mm => bd_X11_crossings_32  s.1 s.2.1 s.2.2.1 s.2.2.2.1 s.2.2.2.2) (fun s : Int32 × Int32 × Int32 × Int32 × Mm => (0, 0, 0, s.2.2.2.2)) FU (x1, x2, x3, 0, μ)) (fun r3 : Int32 × Int32 × Int32 × Mm => .inl ((r3.1), (r3.2.1), ((r3.2.2.1) + 1), (r3.2.2.2))) (fun r3 er3 => ?_)
      have fr3 : Fr [27, 28] μ (r3.2.2.2) := by
        rw [er3]
        exact Fr.call Fr.rfl (fw_X11_crossings_32  _) (by simp)
      exact FrS.inl fr3
  exact Fr_whlK (S := [27, 28]) (f := (fun s : Int32 × Int32 × Int32 × Mm => bd_X11_crossings_23  s.1 s.2.1 s.2.2.1 s.2.2.2)) (dd := (fun s : Int32 × Int32 × Int32 × Mm => (0, s.2.2.2))) (fun s : Int32 × Int32 × Int32 × Mm => s.2.2.2) (fun r : Int32 × Mm => r.2) (fun _ => rfl) key FU s
set_option maxRecDepth 20000 in
set_option maxHeartbeats 400000 in
theorem fr_X11_crossings (p0 : Int32) (μ : Mm) : Fr [27, 28] μ (e_X11_crossings p0 μ) := by
  unfold e_X11_crossings
  refine Fr.ite ?_ ?_
  · exact Fr.rfl
  · refine Fr.ite ?_ ?_
    · refine lt_ (P := fun z => Fr [27, 28] μ z) ((e_X10_begin  μ)) (fun μ3 : Mm => (let r5 : Int32 × Mm := whl (fun s : Int32 × Int32 × Int32 × Mm => bd_X11_crossings_23  s.1 s.2.1 s.2.2.1 s.2.2.2) (fun s : Int32 × Int32 × Int32 × Mm => (0, s.2.2.2)) FU (p0, 0, 0, μ3); (r5.2))) (fun μ3 eμ3 => ?_)
      have fμ3 : Fr [27, 28] μ μ3 := by
        rw [eμ3]
        exact Fr.call Fr.rfl (fr_X10_begin μ) (by simp)
      refine lt_ (P := fun z => Fr [27, 28] μ z) (whl (fun s : Int32 × Int32 × Int32 × Mm => bd_X11_crossings_23  s.1 s.2.1 s.2.2.1 s.2.2.2) (fun s : Int32 × Int32 × Int32 × Mm => (0, s.2.2.2)) FU (p0, 0, 0, μ3)) (fun r5 : Int32 × Mm => (r5.2)) (fun r5 er5 => ?_)
      have fr5 : Fr [27, 28] μ (r5.2) := by
        rw [er5]
        exact Fr.call fμ3 (fw_X11_crossings_23  _) (by simp)
      exact fr5
    · exact Fr.rfl
set_option maxRecDepth 20000 in
set_option maxHeartbeats 400000 in
theorem fr_X11_crowd  (μ : Mm) : Fr [27, 28] μ (e_X11_crowd  μ) := by
  unfold e_X11_crowd
  refine lt_ (P := fun z => Fr [27, 28] μ z) (whl (fun s : Int32 × Int32 × Int32 => bd_X11_crowd_7  μ s.1 s.2.1 s.2.2) (fun _ : Int32 × Int32 × Int32 => (0, 0)) FU (0, 0, (-9))) (fun r2 : Int32 × Int32 => (let μ3 : Mm := (e_X10_begin  μ); (let μ10 : Mm := (if (r2.1) ≤ 0 then μ3 else ((e_X10_add (Int32.toInt64 (v_X1_standingOn 1 (r2.2) ((e_X10_add (Int32.toInt64 (100 + (r2.2))) μ3)))) ((e_X10_add (Int32.toInt64 (100 + (r2.2))) μ3)))) : Mm); μ10))) (fun r2 er2 => ?_)
  refine lt_ (P := fun z => Fr [27, 28] μ z) ((e_X10_begin  μ)) (fun μ3 : Mm => (let μ10 : Mm := (if (r2.1) ≤ 0 then μ3 else ((e_X10_add (Int32.toInt64 (v_X1_standingOn 1 (r2.2) ((e_X10_add (Int32.toInt64 (100 + (r2.2))) μ3)))) ((e_X10_add (Int32.toInt64 (100 + (r2.2))) μ3)))) : Mm); μ10)) (fun μ3 eμ3 => ?_)
  have fμ3 : Fr [27, 28] μ μ3 := by
    rw [eμ3]
    exact Fr.call Fr.rfl (fr_X10_begin μ) (by simp)
  refine lt_ (P := fun z => Fr [27, 28] μ z) ((if (r2.1) ≤ 0 then μ3 else ((e_X10_add (Int32.toInt64 (v_X1_standingOn 1 (r2.2) ((e_X10_add (Int32.toInt64 (100 + (r2.2))) μ3)))) ((e_X10_add (Int32.toInt64 (100 + (r2.2))) μ3)))) : Mm)) (fun μ10 : Mm => μ10) (fun μ10 eμ10 => ?_)
  have fμ10 : Fr [27, 28] μ μ10 := by
    rw [eμ10]
    repeat' (first | with_reducible assumption | with_reducible exact Fr.rfl | with_reducible refine Fr.ite ?_ ?_ | with_reducible refine Fr.up ?_ (by simp) | with_reducible refine Fr.upJ ?_ (by simp) | with_reducible refine Fr.call ?_ (fr_X10_add _ _) (by simp) | with_reducible refine Fr.call ?_ (fr_X10_begin _) (by simp))
  exact fμ10
set_option maxRecDepth 20000 in
set_option maxHeartbeats 400000 in
theorem fw_X11_faints_43  (s : Int32 × Int32 × Int32 × Int32 × Mm) : Fr [34] (s.2.2.2.2) ((whl (fun s : Int32 × Int32 × Int32 × Int32 × Mm => bd_X11_faints_43  s.1 s.2.1 s.2.2.1 s.2.2.2.1 s.2.2.2.2) (fun s : Int32 × Int32 × Int32 × Int32 × Mm => (0, 0, 0, s.2.2.2.2)) FU s).2.2.2) := by
  have key : ∀ s : Int32 × Int32 × Int32 × Int32 × Mm, FrS [34] (s.2.2.2.2) (fun s : Int32 × Int32 × Int32 × Int32 × Mm => s.2.2.2.2) (fun r : Int32 × Int32 × Int32 × Mm => r.2.2.2) ((fun s : Int32 × Int32 × Int32 × Int32 × Mm => bd_X11_faints_43  s.1 s.2.1 s.2.2.1 s.2.2.2.1 s.2.2.2.2) s) := by
    rintro ⟨x1, x2, x3, x4, μ⟩
    show FrS [34] μ (fun s : Int32 × Int32 × Int32 × Int32 × Mm => s.2.2.2.2) (fun r : Int32 × Int32 × Int32 × Mm => r.2.2.2) (bd_X11_faints_43  x1 x2 x3 x4 μ)
    unfold bd_X11_faints_43
    refine FrS.ite ?_ ?_
    · exact FrS.inr Fr.rfl
    · refine lt_ (P := fun z => FrS [34] μ (fun s : Int32 × Int32 × Int32 × Int32 × Mm => s.2.2.2.2) (fun r : Int32 × Int32 × Int32 × Mm => r.2.2.2) z) ((upI μ 34 (Int32.toNatClampNeg x4) ((-(v_X1_load 1 x4 μ)) * (μ.1 4 (Int32.toNatClampNeg x4))))) (fun μ5 : Mm => .inl (x1, x2, x3, (x4 + 1), μ5)) (fun μ5 eμ5 => ?_)
      have fμ5 : Fr [34] μ μ5 := by
        rw [eμ5]
        exact Fr.up Fr.rfl (by simp)
      exact FrS.inl fμ5
  exact Fr_whlK (S := [34]) (f := (fun s : Int32 × Int32 × Int32 × Int32 × Mm => bd_X11_faints_43  s.1 s.2.1 s.2.2.1 s.2.2.2.1 s.2.2.2.2)) (dd := (fun s : Int32 × Int32 × Int32 × Int32 × Mm => (0, 0, 0, s.2.2.2.2))) (fun s : Int32 × Int32 × Int32 × Int32 × Mm => s.2.2.2.2) (fun r : Int32 × Int32 × Int32 × Mm => r.2.2.2) (fun _ => rfl) key FU s
set_option maxRecDepth 20000 in
set_option maxHeartbeats 400000 in
theorem fr_X11_faints (p0 : Int32) (μ : Mm) : Fr [27, 28, 33, 34] μ (e_X11_faints p0 μ) := by
  unfold e_X11_faints
  refine Fr.ite ?_ ?_
  · exact Fr.rfl
  · refine Fr.ite ?_ ?_
    · refine lt_ (P := fun z => Fr [27, 28, 33, 34] μ z) ((e_X8_start (v_X1_present 1 μ) (v_X1_moment 1 μ) μ)) (fun μ4 : Mm => (let r6 : Int32 × Int32 × Int32 × Mm := whl (fun s : Int32 × Int32 × Int32 × Int32 × Mm => bd_X11_faints_43  s.1 s.2.1 s.2.2.1 s.2.2.2.1 s.2.2.2.2) (fun s : Int32 × Int32 × Int32 × Int32 × Mm => (0, 0, 0, s.2.2.2.2)) FU (p0, (v_X1_present 1 μ), (v_J6_bitCount_0f7a4 (v_X1_present 1 μ)), 0, μ4); (let r8 : Int32 × Int64 := whl (fun s : Int32 × Int32 × Int32 × Int64 × Int32 => bd_X11_faints_98  (r6.2.2.2) s.1 s.2.1 s.2.2.1 s.2.2.2.1 s.2.2.2.2) (fun _ : Int32 × Int32 × Int32 × Int64 × Int32 => (0, 0)) FU ((r6.1), (r6.2.1), (r6.2.2.1), 0, 0); (let μ11 : Mm := (e_X11_tellFraction (r8.2) (v_X11_raised 10 (r8.1) (r6.2.2.2)) (r6.2.2.2)); μ11)))) (fun μ4 eμ4 => ?_)
      have fμ4 : Fr [27, 28, 33, 34] μ μ4 := by
        rw [eμ4]
        exact Fr.call Fr.rfl (fr_X8_start (v_X1_present 1 μ) (v_X1_moment 1 μ) μ) (by simp)
      refine lt_ (P := fun z => Fr [27, 28, 33, 34] μ z) (whl (fun s : Int32 × Int32 × Int32 × Int32 × Mm => bd_X11_faints_43  s.1 s.2.1 s.2.2.1 s.2.2.2.1 s.2.2.2.2) (fun s : Int32 × Int32 × Int32 × Int32 × Mm => (0, 0, 0, s.2.2.2.2)) FU (p0, (v_X1_present 1 μ), (v_J6_bitCount_0f7a4 (v_X1_present 1 μ)), 0, μ4)) (fun r6 : Int32 × Int32 × Int32 × Mm => (let r8 : Int32 × Int64 := whl (fun s : Int32 × Int32 × Int32 × Int64 × Int32 => bd_X11_faints_98  (r6.2.2.2) s.1 s.2.1 s.2.2.1 s.2.2.2.1 s.2.2.2.2) (fun _ : Int32 × Int32 × Int32 × Int64 × Int32 => (0, 0)) FU ((r6.1), (r6.2.1), (r6.2.2.1), 0, 0); (let μ11 : Mm := (e_X11_tellFraction (r8.2) (v_X11_raised 10 (r8.1) (r6.2.2.2)) (r6.2.2.2)); μ11))) (fun r6 er6 => ?_)
      have fr6 : Fr [27, 28, 33, 34] μ (r6.2.2.2) := by
        rw [er6]
        exact Fr.call fμ4 (fw_X11_faints_43  _) (by simp)
      refine lt_ (P := fun z => Fr [27, 28, 33, 34] μ z) (whl (fun s : Int32 × Int32 × Int32 × Int64 × Int32 => bd_X11_faints_98  (r6.2.2.2) s.1 s.2.1 s.2.2.1 s.2.2.2.1 s.2.2.2.2) (fun _ : Int32 × Int32 × Int32 × Int64 × Int32 => (0, 0)) FU ((r6.1), (r6.2.1), (r6.2.2.1), 0, 0)) (fun r8 : Int32 × Int64 => (let μ11 : Mm := (e_X11_tellFraction (r8.2) (v_X11_raised 10 (r8.1) (r6.2.2.2)) (r6.2.2.2)); μ11)) (fun r8 er8 => ?_)
      refine lt_ (P := fun z => Fr [27, 28, 33, 34] μ z) ((e_X11_tellFraction (r8.2) (v_X11_raised 10 (r8.1) (r6.2.2.2)) (r6.2.2.2))) (fun μ11 : Mm => μ11) (fun μ11 eμ11 => ?_)
      have fμ11 : Fr [27, 28, 33, 34] μ μ11 := by
        rw [eμ11]
        exact Fr.call fr6 (fr_X11_tellFraction (r8.2) (v_X11_raised 10 (r8.1) (r6.2.2.2)) (r6.2.2.2)) (by simp)
      exact fμ11
    · exact Fr.rfl
set_option maxRecDepth 20000 in
set_option maxHeartbeats 400000 in
theorem fr_X11_keep (p0 : Int32) (μ : Mm) : Fr [31, 32] μ (e_X11_keep p0 μ) := by
  unfold e_X11_keep
  refine lt_ (P := fun z => Fr [31, 32] μ z) ((e_X3_shelve p0 1 μ)) (fun μ2 : Mm => μ2) (fun μ2 eμ2 => ?_)
  have fμ2 : Fr [31, 32] μ μ2 := by
    rw [eμ2]
    exact Fr.call Fr.rfl (fr_X3_shelve p0 1 μ) (by simp)
  exact fμ2
set_option maxRecDepth 20000 in
set_option maxHeartbeats 400000 in
theorem fw_X11_line_27  (s : Int32 × Int32 × Int32 × Mm) : Fr [27, 28] (s.2.2.2) ((whl (fun s : Int32 × Int32 × Int32 × Mm => bd_X11_line_27  s.1 s.2.1 s.2.2.1 s.2.2.2) (fun s : Int32 × Int32 × Int32 × Mm => (0, s.2.2.2)) FU s).2) := by
  have key : ∀ s : Int32 × Int32 × Int32 × Mm, FrS [27, 28] (s.2.2.2) (fun s : Int32 × Int32 × Int32 × Mm => s.2.2.2) (fun r : Int32 × Mm => r.2) ((fun s : Int32 × Int32 × Int32 × Mm => bd_X11_line_27  s.1 s.2.1 s.2.2.1 s.2.2.2) s) := by
    rintro ⟨x1, x2, x3, μ⟩
    show FrS [27, 28] μ (fun s : Int32 × Int32 × Int32 × Mm => s.2.2.2) (fun r : Int32 × Mm => r.2) (bd_X11_line_27  x1 x2 x3 μ)
    unfold bd_X11_line_27
    refine FrS.ite ?_ ?_
    · exact FrS.inr Fr.rfl
    · refine lt_ (P := fun z => FrS [27, 28] μ (fun s : Int32 × Int32 × Int32 × Mm => s.2.2.2) (fun r : Int32 × Mm => r.2) z) ((if (v_X11_isIn x2 x3) = 0 then μ else ((e_X10_add (Int32.toInt64 x3) μ)) : Mm)) (fun μ5 : Mm => .inl (x1, x2, (x3 + 1), μ5)) (fun μ5 eμ5 => ?_)
      have fμ5 : Fr [27, 28] μ μ5 := by
        rw [eμ5]
        repeat' (first | with_reducible assumption | with_reducible exact Fr.rfl | with_reducible refine Fr.ite ?_ ?_ | with_reducible refine Fr.up ?_ (by simp) | with_reducible refine Fr.upJ ?_ (by simp) | with_reducible refine Fr.call ?_ (fr_X10_add _ _) (by simp) | with_reducible refine Fr.call ?_ (fr_X10_begin _) (by simp))
      exact FrS.inl fμ5
  exact Fr_whlK (S := [27, 28]) (f := (fun s : Int32 × Int32 × Int32 × Mm => bd_X11_line_27  s.1 s.2.1 s.2.2.1 s.2.2.2)) (dd := (fun s : Int32 × Int32 × Int32 × Mm => (0, s.2.2.2))) (fun s : Int32 × Int32 × Int32 × Mm => s.2.2.2) (fun r : Int32 × Mm => r.2) (fun _ => rfl) key FU s
set_option maxRecDepth 20000 in
set_option maxHeartbeats 400000 in
theorem fw_X11_line_10  (s : Int32 × Mm) : Fr [27, 28] (s.2) ((whl (fun s : Int32 × Mm => bd_X11_line_10  s.1 s.2) (fun s : Int32 × Mm => s.2) FU s)) := by
  have key : ∀ s : Int32 × Mm, FrS [27, 28] (s.2) (fun s : Int32 × Mm => s.2) (fun r : Mm => r) ((fun s : Int32 × Mm => bd_X11_line_10  s.1 s.2) s) := by
    rintro ⟨x1, μ⟩
    show FrS [27, 28] μ (fun s : Int32 × Mm => s.2) (fun r : Mm => r) (bd_X11_line_10  x1 μ)
    unfold bd_X11_line_10
    refine FrS.ite ?_ ?_
    · exact FrS.inr Fr.rfl
    · refine lt_ (P := fun z => FrS [27, 28] μ (fun s : Int32 × Mm => s.2) (fun r : Mm => r) z) (whl (fun s : Int32 × Int32 × Int32 × Mm => bd_X11_line_27  s.1 s.2.1 s.2.2.1 s.2.2.2) (fun s : Int32 × Int32 × Int32 × Mm => (0, s.2.2.2)) FU (x1, (v_X1_standingOn 1 x1 μ), 0, μ)) (fun r4 : Int32 × Mm => .inl (((r4.1) + 1), (r4.2))) (fun r4 er4 => ?_)
      have fr4 : Fr [27, 28] μ (r4.2) := by
        rw [er4]
        exact Fr.call Fr.rfl (fw_X11_line_27  _) (by simp)
      exact FrS.inl fr4
  exact Fr_whlK (S := [27, 28]) (f := (fun s : Int32 × Mm => bd_X11_line_10  s.1 s.2)) (dd := (fun s : Int32 × Mm => s.2)) (fun s : Int32 × Mm => s.2) (fun r : Mm => r) (fun _ => rfl) key FU s
set_option maxRecDepth 20000 in
set_option maxHeartbeats 400000 in
theorem fr_X11_line  (μ : Mm) : Fr [27, 28] μ (e_X11_line  μ) := by
  unfold e_X11_line
  refine lt_ (P := fun z => Fr [27, 28] μ z) ((e_X10_begin  μ)) (fun μ1 : Mm => (let r3 : Mm := whl (fun s : Int32 × Mm => bd_X11_line_10  s.1 s.2) (fun s : Int32 × Mm => s.2) FU ((-9), μ1); r3)) (fun μ1 eμ1 => ?_)
  have fμ1 : Fr [27, 28] μ μ1 := by
    rw [eμ1]
    exact Fr.call Fr.rfl (fr_X10_begin μ) (by simp)
  refine lt_ (P := fun z => Fr [27, 28] μ z) (whl (fun s : Int32 × Mm => bd_X11_line_10  s.1 s.2) (fun s : Int32 × Mm => s.2) FU ((-9), μ1)) (fun r3 : Mm => r3) (fun r3 er3 => ?_)
  have fr3 : Fr [27, 28] μ r3 := by
    rw [er3]
    exact Fr.call fμ1 (fw_X11_line_10  _) (by simp)
  exact fr3
set_option maxRecDepth 20000 in
set_option maxHeartbeats 400000 in
theorem fw_X11_plank_40  (s : Int32 × Int32 × Int32 × Int32 × Mm) : Fr [48] (s.2.2.2.2) ((whl (fun s : Int32 × Int32 × Int32 × Int32 × Mm => bd_X11_plank_40  s.1 s.2.1 s.2.2.1 s.2.2.2.1 s.2.2.2.2) (fun s : Int32 × Int32 × Int32 × Int32 × Mm => (0, 0, 0, s.2.2.2.2)) FU s).2.2.2) := by
  have key : ∀ s : Int32 × Int32 × Int32 × Int32 × Mm, FrS [48] (s.2.2.2.2) (fun s : Int32 × Int32 × Int32 × Int32 × Mm => s.2.2.2.2) (fun r : Int32 × Int32 × Int32 × Mm => r.2.2.2) ((fun s : Int32 × Int32 × Int32 × Int32 × Mm => bd_X11_plank_40  s.1 s.2.1 s.2.2.1 s.2.2.2.1 s.2.2.2.2) s) := by
    rintro ⟨x1, x2, x3, x4, μ⟩
    show FrS [48] μ (fun s : Int32 × Int32 × Int32 × Int32 × Mm => s.2.2.2.2) (fun r : Int32 × Int32 × Int32 × Mm => r.2.2.2) (bd_X11_plank_40  x1 x2 x3 x4 μ)
    unfold bd_X11_plank_40
    refine FrS.ite ?_ ?_
    · exact FrS.inr Fr.rfl
    · refine lt_ (P := fun z => FrS [48] μ (fun s : Int32 × Int32 × Int32 × Int32 × Mm => s.2.2.2.2) (fun r : Int32 × Int32 × Int32 × Mm => r.2.2.2) z) ((if (v_X11_winningStride x3 x2 x4 μ) ≤ 0 then μ else ((upI μ 48 (Int32.toNatClampNeg x3) ((μ.1 48 (Int32.toNatClampNeg x3)) ||| (1 <<< (x4 &&& 31))))) : Mm)) (fun μ7 : Mm => .inl (x1, x2, x3, (x4 + 1), μ7)) (fun μ7 eμ7 => ?_)
      have fμ7 : Fr [48] μ μ7 := by
        rw [eμ7]
        repeat' (first | with_reducible assumption | with_reducible exact Fr.rfl | with_reducible refine Fr.ite ?_ ?_ | with_reducible refine Fr.up ?_ (by simp) | with_reducible refine Fr.upJ ?_ (by simp))
      exact FrS.inl fμ7
  exact Fr_whlK (S := [48]) (f := (fun s : Int32 × Int32 × Int32 × Int32 × Mm => bd_X11_plank_40  s.1 s.2.1 s.2.2.1 s.2.2.2.1 s.2.2.2.2)) (dd := (fun s : Int32 × Int32 × Int32 × Int32 × Mm => (0, 0, 0, s.2.2.2.2))) (fun s : Int32 × Int32 × Int32 × Int32 × Mm => s.2.2.2.2) (fun r : Int32 × Int32 × Int32 × Mm => r.2.2.2) (fun _ => rfl) key FU s
set_option maxRecDepth 20000 in
set_option maxHeartbeats 400000 in
theorem fw_X11_plank_25  (s : Int32 × Int32 × Int32 × Mm) : Fr [48] (s.2.2.2) ((whl (fun s : Int32 × Int32 × Int32 × Mm => bd_X11_plank_25  s.1 s.2.1 s.2.2.1 s.2.2.2) (fun s : Int32 × Int32 × Int32 × Mm => (0, 0, s.2.2.2)) FU s).2.2) := by
  have key : ∀ s : Int32 × Int32 × Int32 × Mm, FrS [48] (s.2.2.2) (fun s : Int32 × Int32 × Int32 × Mm => s.2.2.2) (fun r : Int32 × Int32 × Mm => r.2.2) ((fun s : Int32 × Int32 × Int32 × Mm => bd_X11_plank_25  s.1 s.2.1 s.2.2.1 s.2.2.2) s) := by
    rintro ⟨x1, x2, x3, μ⟩
    show FrS [48] μ (fun s : Int32 × Int32 × Int32 × Mm => s.2.2.2) (fun r : Int32 × Int32 × Mm => r.2.2) (bd_X11_plank_25  x1 x2 x3 μ)
    unfold bd_X11_plank_25
    refine FrS.ite ?_ ?_
    · exact FrS.inr Fr.rfl
    · refine lt_ (P := fun z => FrS [48] μ (fun s : Int32 × Int32 × Int32 × Mm => s.2.2.2) (fun r : Int32 × Int32 × Mm => r.2.2) z) ((upI μ 48 (Int32.toNatClampNeg x3) 0)) (fun μ3 : Mm => (let r5 : Int32 × Int32 × Int32 × Mm := whl (fun s : Int32 × Int32 × Int32 × Int32 × Mm => bd_X11_plank_40  s.1 s.2.1 s.2.2.1 s.2.2.2.1 s.2.2.2.2) (fun s : Int32 × Int32 × Int32 × Int32 × Mm => (0, 0, 0, s.2.2.2.2)) FU (x1, x2, x3, 0, μ3); .inl ((r5.1), (r5.2.1), ((r5.2.2.1) + 1), (r5.2.2.2)))) (fun μ3 eμ3 => ?_)
      have fμ3 : Fr [48] μ μ3 := by
        rw [eμ3]
        exact Fr.up Fr.rfl (by simp)
      refine lt_ (P := fun z => FrS [48] μ (fun s : Int32 × Int32 × Int32 × Mm => s.2.2.2) (fun r : Int32 × Int32 × Mm => r.2.2) z) (whl (fun s : Int32 × Int32 × Int32 × Int32 × Mm => bd_X11_plank_40  s.1 s.2.1 s.2.2.1 s.2.2.2.1 s.2.2.2.2) (fun s : Int32 × Int32 × Int32 × Int32 × Mm => (0, 0, 0, s.2.2.2.2)) FU (x1, x2, x3, 0, μ3)) (fun r5 : Int32 × Int32 × Int32 × Mm => .inl ((r5.1), (r5.2.1), ((r5.2.2.1) + 1), (r5.2.2.2))) (fun r5 er5 => ?_)
      have fr5 : Fr [48] μ (r5.2.2.2) := by
        rw [er5]
        exact Fr.call fμ3 (fw_X11_plank_40  _) (by simp)
      exact FrS.inl fr5
  exact Fr_whlK (S := [48]) (f := (fun s : Int32 × Int32 × Int32 × Mm => bd_X11_plank_25  s.1 s.2.1 s.2.2.1 s.2.2.2)) (dd := (fun s : Int32 × Int32 × Int32 × Mm => (0, 0, s.2.2.2))) (fun s : Int32 × Int32 × Int32 × Mm => s.2.2.2) (fun r : Int32 × Int32 × Mm => r.2.2) (fun _ => rfl) key FU s
set_option maxRecDepth 20000 in
set_option maxHeartbeats 400000 in
theorem fr_X11_plank (p0 : Int32) (p1 : Int32) (μ : Mm) : Fr [48] μ (e_X11_plank p0 p1 μ) := by
  unfold e_X11_plank
  refine Fr.ite ?_ ?_
  · exact Fr.rfl
  · refine Fr.ite ?_ ?_
    · exact Fr.rfl
    · refine Fr.ite ?_ ?_
      · exact Fr.rfl
      · refine Fr.ite ?_ ?_
        · refine lt_ (P := fun z => Fr [48] μ z) (whl (fun s : Int32 × Int32 × Int32 × Mm => bd_X11_plank_25  s.1 s.2.1 s.2.2.1 s.2.2.2) (fun s : Int32 × Int32 × Int32 × Mm => (0, 0, s.2.2.2)) FU (p0, p1, 0, μ)) (fun r6 : Int32 × Int32 × Mm => (r6.2.2)) (fun r6 er6 => ?_)
          have fr6 : Fr [48] μ (r6.2.2) := by
            rw [er6]
            exact Fr.call Fr.rfl (fw_X11_plank_25  _) (by simp)
          exact fr6
        · exact Fr.rfl
set_option maxRecDepth 20000 in
set_option maxHeartbeats 400000 in
theorem fw_X11_sheet_47  (s : Int32 × Int32 × Int32 × Int32 × Int32 × Int32 × Mm) : Fr [2] (s.2.2.2.2.2.2) ((whl (fun s : Int32 × Int32 × Int32 × Int32 × Int32 × Int32 × Mm => bd_X11_sheet_47  s.1 s.2.1 s.2.2.1 s.2.2.2.1 s.2.2.2.2.1 s.2.2.2.2.2.1 s.2.2.2.2.2.2) (fun s : Int32 × Int32 × Int32 × Int32 × Int32 × Int32 × Mm => (0, 0, s.2.2.2.2.2.2)) FU s).2.2) := by
  have key : ∀ s : Int32 × Int32 × Int32 × Int32 × Int32 × Int32 × Mm, FrS [2] (s.2.2.2.2.2.2) (fun s : Int32 × Int32 × Int32 × Int32 × Int32 × Int32 × Mm => s.2.2.2.2.2.2) (fun r : Int32 × Int32 × Mm => r.2.2) ((fun s : Int32 × Int32 × Int32 × Int32 × Int32 × Int32 × Mm => bd_X11_sheet_47  s.1 s.2.1 s.2.2.1 s.2.2.2.1 s.2.2.2.2.1 s.2.2.2.2.2.1 s.2.2.2.2.2.2) s) := by
    rintro ⟨x1, x3, x4, x5, x6, x7, μ⟩
    show FrS [2] μ (fun s : Int32 × Int32 × Int32 × Int32 × Int32 × Int32 × Mm => s.2.2.2.2.2.2) (fun r : Int32 × Int32 × Mm => r.2.2) (bd_X11_sheet_47  x1 x3 x4 x5 x6 x7 μ)
    unfold bd_X11_sheet_47
    refine FrS.ite ?_ ?_
    · exact FrS.inr Fr.rfl
    · refine lt_ (P := fun z => FrS [2] μ (fun s : Int32 × Int32 × Int32 × Int32 × Int32 × Int32 × Mm => s.2.2.2.2.2.2) (fun r : Int32 × Int32 × Mm => r.2.2) z) ((upI μ 2 (Int32.toNatClampNeg x7) (if x5 ≤ x7 then 1 else (v_X11_entryOf x1 (x3 + (x7 * x4))) : Int32))) (fun μ5 : Mm => .inl (x1, x3, x4, x5, (x6 + (μ5.1 2 (Int32.toNatClampNeg x7))), (x7 + 1), μ5)) (fun μ5 eμ5 => ?_)
      have fμ5 : Fr [2] μ μ5 := by
        rw [eμ5]
        exact Fr.up Fr.rfl (by simp)
      exact FrS.inl fμ5
  exact Fr_whlK (S := [2]) (f := (fun s : Int32 × Int32 × Int32 × Int32 × Int32 × Int32 × Mm => bd_X11_sheet_47  s.1 s.2.1 s.2.2.1 s.2.2.2.1 s.2.2.2.2.1 s.2.2.2.2.2.1 s.2.2.2.2.2.2)) (dd := (fun s : Int32 × Int32 × Int32 × Int32 × Int32 × Int32 × Mm => (0, 0, s.2.2.2.2.2.2))) (fun s : Int32 × Int32 × Int32 × Int32 × Int32 × Int32 × Mm => s.2.2.2.2.2.2) (fun r : Int32 × Int32 × Mm => r.2.2) (fun _ => rfl) key FU s
set_option maxRecDepth 20000 in
set_option maxHeartbeats 400000 in
theorem fr_X11_sheet (p0 : Int32) (p1 : Int32) (p2 : Int32) (p3 : Int32) (μ : Mm) : Fr [2] μ (e_X11_sheet p0 p1 p2 p3 μ) := by
  unfold e_X11_sheet
  refine Fr.ite ?_ ?_
  · exact Fr.rfl
  · refine Fr.ite ?_ ?_
    · exact Fr.rfl
    · refine Fr.ite ?_ ?_
      · refine Fr.ite ?_ ?_
        · refine lt_ (P := fun z => Fr [2] μ z) (whl (fun s : Int32 × Int32 × Int32 × Int32 × Int32 × Int32 × Mm => bd_X11_sheet_47  s.1 s.2.1 s.2.2.1 s.2.2.2.1 s.2.2.2.2.1 s.2.2.2.2.2.1 s.2.2.2.2.2.2) (fun s : Int32 × Int32 × Int32 × Int32 × Int32 × Int32 × Mm => (0, 0, s.2.2.2.2.2.2)) FU (p0, p2, p3, 0, 0, 0, μ)) (fun r8 : Int32 × Int32 × Mm => (r8.2.2)) (fun r8 er8 => ?_)
          have fr8 : Fr [2] μ (r8.2.2) := by
            rw [er8]
            exact Fr.call Fr.rfl (fw_X11_sheet_47  _) (by simp)
          exact fr8
        · refine Fr.ite ?_ ?_
          · refine lt_ (P := fun z => Fr [2] μ z) (whl (fun s : Int32 × Int32 × Int32 × Int32 × Int32 × Int32 × Mm => bd_X11_sheet_47  s.1 s.2.1 s.2.2.1 s.2.2.2.1 s.2.2.2.2.1 s.2.2.2.2.2.1 s.2.2.2.2.2.2) (fun s : Int32 × Int32 × Int32 × Int32 × Int32 × Int32 × Mm => (0, 0, s.2.2.2.2.2.2)) FU (p0, p2, p3, p1, 0, 0, μ)) (fun r15 : Int32 × Int32 × Mm => (r15.2.2)) (fun r15 er15 => ?_)
            have fr15 : Fr [2] μ (r15.2.2) := by
              rw [er15]
              exact Fr.call Fr.rfl (fw_X11_sheet_47  _) (by simp)
            exact fr15
          · exact Fr.rfl
      · exact Fr.rfl
set_option maxRecDepth 20000 in
set_option maxHeartbeats 400000 in
theorem fr_X11_undo  (μ : Mm) : Fr [1, 29, 3, 4, 5] μ (e_X11_undo  μ) := by
  unfold e_X11_undo
  refine lt_ (P := fun z => Fr [1, 29, 3, 4, 5] μ z) ((e_X3_back 1 μ)) (fun μ2 : Mm => μ2) (fun μ2 eμ2 => ?_)
  have fμ2 : Fr [1, 29, 3, 4, 5] μ μ2 := by
    rw [eμ2]
    exact Fr.call Fr.rfl (fr_X3_back 1 μ) (by simp)
  exact fμ2
set_option maxRecDepth 20000 in
set_option maxHeartbeats 400000 in
theorem fw_X12_crossings_37  (s : Int32 × Int32 × Int32 × Int32 × Mm) : Fr [49, 50] (s.2.2.2.2) ((whl (fun s : Int32 × Int32 × Int32 × Int32 × Mm => bd_X12_crossings_37  s.1 s.2.1 s.2.2.1 s.2.2.2.1 s.2.2.2.2) (fun s : Int32 × Int32 × Int32 × Int32 × Mm => (0, 0, 0, s.2.2.2.2)) FU s).2.2.2) := by
  have key : ∀ s : Int32 × Int32 × Int32 × Int32 × Mm, FrS [49, 50] (s.2.2.2.2) (fun s : Int32 × Int32 × Int32 × Int32 × Mm => s.2.2.2.2) (fun r : Int32 × Int32 × Int32 × Mm => r.2.2.2) ((fun s : Int32 × Int32 × Int32 × Int32 × Mm => bd_X12_crossings_37  s.1 s.2.1 s.2.2.1 s.2.2.2.1 s.2.2.2.2) s) := by
    rintro ⟨x1, x2, x3, x4, μ⟩
    show FrS [49, 50] μ (fun s : Int32 × Int32 × Int32 × Int32 × Mm => s.2.2.2.2) (fun r : Int32 × Int32 × Int32 × Mm => r.2.2.2) (bd_X12_crossings_37  x1 x2 x3 x4 μ)
    unfold bd_X12_crossings_37
    refine FrS.ite ?_ ?_
    · exact FrS.inr Fr.rfl
    · refine lt_ (P := fun z => FrS [49, 50] μ (fun s : Int32 × Int32 × Int32 × Int32 × Mm => s.2.2.2.2) (fun r : Int32 × Int32 × Int32 × Mm => r.2.2.2) z) ((if (v_X12_isRest x3 x4 x1 μ) = 0 then μ else (if (v_X12_isRest x4 x3 x1 μ) = 0 then μ else ((if x2 = 0 then ((e_X12_enters (Int32.toInt64 x4) ((e_X12_enters (Int32.toInt64 x3) μ)))) else μ : Mm)) : Mm) : Mm)) (fun μ13 : Mm => .inl (x1, (if (v_X12_isRest x3 x4 x1 μ) = 0 then x2 else (if (v_X12_isRest x4 x3 x1 μ) = 0 then x2 else (x2 + 1) : Int32) : Int32), x3, (x4 + 1), μ13)) (fun μ13 eμ13 => ?_)
      have fμ13 : Fr [49, 50] μ μ13 := by
        rw [eμ13]
        repeat' (first | with_reducible assumption | with_reducible exact Fr.rfl | with_reducible refine Fr.ite ?_ ?_ | with_reducible refine Fr.up ?_ (by simp) | with_reducible refine Fr.upJ ?_ (by simp) | with_reducible refine Fr.call ?_ (fr_X12_enters _ _) (by simp))
      exact FrS.inl fμ13
  exact Fr_whlK (S := [49, 50]) (f := (fun s : Int32 × Int32 × Int32 × Int32 × Mm => bd_X12_crossings_37  s.1 s.2.1 s.2.2.1 s.2.2.2.1 s.2.2.2.2)) (dd := (fun s : Int32 × Int32 × Int32 × Int32 × Mm => (0, 0, 0, s.2.2.2.2))) (fun s : Int32 × Int32 × Int32 × Int32 × Mm => s.2.2.2.2) (fun r : Int32 × Int32 × Int32 × Mm => r.2.2.2) (fun _ => rfl) key FU s
set_option maxRecDepth 20000 in
set_option maxHeartbeats 400000 in
theorem fw_X12_crossings_28  (s : Int32 × Int32 × Int32 × Mm) : Fr [49, 50] (s.2.2.2) ((whl (fun s : Int32 × Int32 × Int32 × Mm => bd_X12_crossings_28  s.1 s.2.1 s.2.2.1 s.2.2.2) (fun s : Int32 × Int32 × Int32 × Mm => (0, s.2.2.2)) FU s).2) := by
  have key : ∀ s : Int32 × Int32 × Int32 × Mm, FrS [49, 50] (s.2.2.2) (fun s : Int32 × Int32 × Int32 × Mm => s.2.2.2) (fun r : Int32 × Mm => r.2) ((fun s : Int32 × Int32 × Int32 × Mm => bd_X12_crossings_28  s.1 s.2.1 s.2.2.1 s.2.2.2) s) := by
    rintro ⟨x1, x2, x3, μ⟩
    show FrS [49, 50] μ (fun s : Int32 × Int32 × Int32 × Mm => s.2.2.2) (fun r : Int32 × Mm => r.2) (bd_X12_crossings_28  x1 x2 x3 μ)
    unfold bd_X12_crossings_28
    refine FrS.ite ?_ ?_
    · exact FrS.inr Fr.rfl
    · refine lt_ (P := fun z => FrS [49, 50] μ (fun s : Int32 × Int32 × Int32 × Mm => s.2.2.2) (fun r : Int32 × Mm => r.2) z) (whl (fun s : Int32 × Int32 × Int32 × Int32 × Mm => bd_X12_crossings_37  s.1 s.2.1 s.2.2.1 s.2.2.2.1 s.2.2.2.2) (fun s : Int32 × Int32 × Int32 × Int32 × Mm => (0, 0, 0, s.2.2.2.2)) FU (x1, x2, x3, 0, μ)) (fun r3 : Int32 × Int32 × Int32 × Mm => .inl ((r3.1), (r3.2.1), ((r3.2.2.1) + 1), (r3.2.2.2))) (fun r3 er3 => ?_)
      have fr3 : Fr [49, 50] μ (r3.2.2.2) := by
        rw [er3]
        exact Fr.call Fr.rfl (fw_X12_crossings_37  _) (by simp)
      exact FrS.inl fr3
  exact Fr_whlK (S := [49, 50]) (f := (fun s : Int32 × Int32 × Int32 × Mm => bd_X12_crossings_28  s.1 s.2.1 s.2.2.1 s.2.2.2)) (dd := (fun s : Int32 × Int32 × Int32 × Mm => (0, s.2.2.2))) (fun s : Int32 × Int32 × Int32 × Mm => s.2.2.2) (fun r : Int32 × Mm => r.2) (fun _ => rfl) key FU s
set_option maxRecDepth 20000 in
set_option maxHeartbeats 400000 in
theorem fr_X12_crossings (p0 : Int32) (μ : Mm) : Fr [49, 50] μ (e_X12_crossings p0 μ) := by
  unfold e_X12_crossings
  refine lt_ (P := fun z => Fr [49, 50] μ z) ((upI μ 49 0 0)) (fun μ1 : Mm => (if (v_X12_in (Int32.toInt64 p0) 0 20) = 0 then μ1 else (let μ3 : Mm := (upI μ1 49 1 0); (let r5 : Int32 × Mm := whl (fun s : Int32 × Int32 × Int32 × Mm => bd_X12_crossings_28  s.1 s.2.1 s.2.2.1 s.2.2.2) (fun s : Int32 × Int32 × Int32 × Mm => (0, s.2.2.2)) FU (p0, 0, 0, μ3); (r5.2))))) (fun μ1 eμ1 => ?_)
  have fμ1 : Fr [49, 50] μ μ1 := by
    rw [eμ1]
    exact Fr.up Fr.rfl (by simp)
  refine Fr.ite ?_ ?_
  · exact fμ1
  · refine lt_ (P := fun z => Fr [49, 50] μ z) ((upI μ1 49 1 0)) (fun μ3 : Mm => (let r5 : Int32 × Mm := whl (fun s : Int32 × Int32 × Int32 × Mm => bd_X12_crossings_28  s.1 s.2.1 s.2.2.1 s.2.2.2) (fun s : Int32 × Int32 × Int32 × Mm => (0, s.2.2.2)) FU (p0, 0, 0, μ3); (r5.2))) (fun μ3 eμ3 => ?_)
    have fμ3 : Fr [49, 50] μ μ3 := by
      rw [eμ3]
      exact Fr.up fμ1 (by simp)
    refine lt_ (P := fun z => Fr [49, 50] μ z) (whl (fun s : Int32 × Int32 × Int32 × Mm => bd_X12_crossings_28  s.1 s.2.1 s.2.2.1 s.2.2.2) (fun s : Int32 × Int32 × Int32 × Mm => (0, s.2.2.2)) FU (p0, 0, 0, μ3)) (fun r5 : Int32 × Mm => (r5.2)) (fun r5 er5 => ?_)
    have fr5 : Fr [49, 50] μ (r5.2) := by
      rw [er5]
      exact Fr.call fμ3 (fw_X12_crossings_28  _) (by simp)
    exact fr5
set_option maxRecDepth 20000 in
set_option maxHeartbeats 400000 in
theorem fw_X12_laysWon_2  (s : Int32 × Int32 × Mm) : Fr [66] (s.2.2) ((whl (fun s : Int32 × Int32 × Mm => bd_X12_laysWon_2  s.1 s.2.1 s.2.2) (fun s : Int32 × Int32 × Mm => (0, s.2.2)) FU s).2) := by
  have key : ∀ s : Int32 × Int32 × Mm, FrS [66] (s.2.2) (fun s : Int32 × Int32 × Mm => s.2.2) (fun r : Int32 × Mm => r.2) ((fun s : Int32 × Int32 × Mm => bd_X12_laysWon_2  s.1 s.2.1 s.2.2) s) := by
    rintro ⟨x1, x2, μ⟩
    show FrS [66] μ (fun s : Int32 × Int32 × Mm => s.2.2) (fun r : Int32 × Mm => r.2) (bd_X12_laysWon_2  x1 x2 μ)
    unfold bd_X12_laysWon_2
    refine FrS.ite ?_ ?_
    · exact FrS.inr Fr.rfl
    · refine lt_ (P := fun z => FrS [66] μ (fun s : Int32 × Int32 × Mm => s.2.2) (fun r : Int32 × Mm => r.2) z) ((upI μ 66 (Int32.toNatClampNeg (v_X12_slot (μ.1 49 3) x2)) (if x2 = 0 then 0 else (-1000000) : Int32))) (fun μ5 : Mm => .inl (x1, (x2 + 1), μ5)) (fun μ5 eμ5 => ?_)
      have fμ5 : Fr [66] μ μ5 := by
        rw [eμ5]
        exact Fr.up Fr.rfl (by simp)
      exact FrS.inl fμ5
  exact Fr_whlK (S := [66]) (f := (fun s : Int32 × Int32 × Mm => bd_X12_laysWon_2  s.1 s.2.1 s.2.2)) (dd := (fun s : Int32 × Int32 × Mm => (0, s.2.2))) (fun s : Int32 × Int32 × Mm => s.2.2) (fun r : Int32 × Mm => r.2) (fun _ => rfl) key FU s
set_option maxRecDepth 20000 in
set_option maxHeartbeats 400000 in
theorem fw_X12_laysWon_51  (s : Int32 × Int32 × Int32 × Mm) : Fr [66] (s.2.2.2) ((whl (fun s : Int32 × Int32 × Int32 × Mm => bd_X12_laysWon_51  s.1 s.2.1 s.2.2.1 s.2.2.2) (fun s : Int32 × Int32 × Int32 × Mm => (0, 0, s.2.2.2)) FU s).2.2) := by
  have key : ∀ s : Int32 × Int32 × Int32 × Mm, FrS [66] (s.2.2.2) (fun s : Int32 × Int32 × Int32 × Mm => s.2.2.2) (fun r : Int32 × Int32 × Mm => r.2.2) ((fun s : Int32 × Int32 × Int32 × Mm => bd_X12_laysWon_51  s.1 s.2.1 s.2.2.1 s.2.2.2) s) := by
    rintro ⟨x1, x2, x3, μ⟩
    show FrS [66] μ (fun s : Int32 × Int32 × Int32 × Mm => s.2.2.2) (fun r : Int32 × Int32 × Mm => r.2.2) (bd_X12_laysWon_51  x1 x2 x3 μ)
    unfold bd_X12_laysWon_51
    refine FrS.ite ?_ ?_
    · exact FrS.inr Fr.rfl
    · refine lt_ (P := fun z => FrS [66] μ (fun s : Int32 × Int32 × Int32 × Mm => s.2.2.2) (fun r : Int32 × Int32 × Mm => r.2.2) z) (whl (fun s : Int32 × Int32 × Int32 × Int32 × Int32 => bd_X12_laysWon_65  μ s.1 s.2.1 s.2.2.1 s.2.2.2.1 s.2.2.2.2) (fun _ : Int32 × Int32 × Int32 × Int32 × Int32 => (0, 0, 0, 0)) FU (x1, x2, x3, (-1000000), 0)) (fun r3 : Int32 × Int32 × Int32 × Int32 => (let μ5 : Mm := (upI μ 66 (Int32.toNatClampNeg (v_X12_slot (r3.2.1) (r3.2.2.1))) (r3.2.2.2)); .inl ((r3.1), (r3.2.1), ((r3.2.2.1) + 1), μ5))) (fun r3 er3 => ?_)
      refine lt_ (P := fun z => FrS [66] μ (fun s : Int32 × Int32 × Int32 × Mm => s.2.2.2) (fun r : Int32 × Int32 × Mm => r.2.2) z) ((upI μ 66 (Int32.toNatClampNeg (v_X12_slot (r3.2.1) (r3.2.2.1))) (r3.2.2.2))) (fun μ5 : Mm => .inl ((r3.1), (r3.2.1), ((r3.2.2.1) + 1), μ5)) (fun μ5 eμ5 => ?_)
      have fμ5 : Fr [66] μ μ5 := by
        rw [eμ5]
        exact Fr.up Fr.rfl (by simp)
      exact FrS.inl fμ5
  exact Fr_whlK (S := [66]) (f := (fun s : Int32 × Int32 × Int32 × Mm => bd_X12_laysWon_51  s.1 s.2.1 s.2.2.1 s.2.2.2)) (dd := (fun s : Int32 × Int32 × Int32 × Mm => (0, 0, s.2.2.2))) (fun s : Int32 × Int32 × Int32 × Mm => s.2.2.2) (fun r : Int32 × Int32 × Mm => r.2.2) (fun _ => rfl) key FU s
set_option maxRecDepth 20000 in
set_option maxHeartbeats 400000 in
theorem fr_X12_noon (p0 : Int32) (μ : Mm) : Fr [49, 52, 61] μ (e_X12_noon p0 μ) := by
  unfold e_X12_noon
  refine lt_ (P := fun z => Fr [49, 52, 61] μ z) ((upI μ 49 0 0)) (fun μ1 : Mm => (let μ3 : Mm := (e_X12_putsBy  μ1); (let μ7 : Mm := (if (v_X12_in (Int32.toInt64 p0) 1 60) = 0 then μ3 else ((e_X12_becomes 23 p0 0 μ3)) : Mm); (let μ9 : Mm := (e_X12_counted (if (v_X12_in (Int32.toInt64 p0) 1 60) = 0 then (-1) else (v_X12_becomes 23 p0 0 μ3) : Int32) μ7); μ9)))) (fun μ1 eμ1 => ?_)
  have fμ1 : Fr [49, 52, 61] μ μ1 := by
    rw [eμ1]
    exact Fr.up Fr.rfl (by simp)
  refine lt_ (P := fun z => Fr [49, 52, 61] μ z) ((e_X12_putsBy  μ1)) (fun μ3 : Mm => (let μ7 : Mm := (if (v_X12_in (Int32.toInt64 p0) 1 60) = 0 then μ3 else ((e_X12_becomes 23 p0 0 μ3)) : Mm); (let μ9 : Mm := (e_X12_counted (if (v_X12_in (Int32.toInt64 p0) 1 60) = 0 then (-1) else (v_X12_becomes 23 p0 0 μ3) : Int32) μ7); μ9))) (fun μ3 eμ3 => ?_)
  have fμ3 : Fr [49, 52, 61] μ μ3 := by
    rw [eμ3]
    exact Fr.call fμ1 (fr_X12_putsBy μ1) (by simp)
  refine lt_ (P := fun z => Fr [49, 52, 61] μ z) ((if (v_X12_in (Int32.toInt64 p0) 1 60) = 0 then μ3 else ((e_X12_becomes 23 p0 0 μ3)) : Mm)) (fun μ7 : Mm => (let μ9 : Mm := (e_X12_counted (if (v_X12_in (Int32.toInt64 p0) 1 60) = 0 then (-1) else (v_X12_becomes 23 p0 0 μ3) : Int32) μ7); μ9)) (fun μ7 eμ7 => ?_)
  have fμ7 : Fr [49, 52, 61] μ μ7 := by
    rw [eμ7]
    repeat' (first | with_reducible assumption | with_reducible exact Fr.rfl | with_reducible refine Fr.ite ?_ ?_ | with_reducible refine Fr.up ?_ (by simp) | with_reducible refine Fr.upJ ?_ (by simp) | with_reducible refine Fr.call ?_ (fr_X12_becomes _ _ _ _) (by simp) | with_reducible refine Fr.call ?_ (fr_X12_counted _ _) (by simp) | with_reducible refine Fr.call ?_ (fr_X12_putsBy _) (by simp))
  refine lt_ (P := fun z => Fr [49, 52, 61] μ z) ((e_X12_counted (if (v_X12_in (Int32.toInt64 p0) 1 60) = 0 then (-1) else (v_X12_becomes 23 p0 0 μ3) : Int32) μ7)) (fun μ9 : Mm => μ9) (fun μ9 eμ9 => ?_)
  have fμ9 : Fr [49, 52, 61] μ μ9 := by
    rw [eμ9]
    exact Fr.call fμ7 (fr_X12_counted (if (v_X12_in (Int32.toInt64 p0) 1 60) = 0 then (-1) else (v_X12_becomes 23 p0 0 μ3) : Int32) μ7) (by simp)
  exact fμ9
set_option maxRecDepth 20000 in
set_option maxHeartbeats 400000 in
theorem fw_X12_number_13  (s : Int32 × Int32 × Int32 × Mm) : Fr [49] (s.2.2.2) ((whl (fun s : Int32 × Int32 × Int32 × Mm => bd_X12_number_13  s.1 s.2.1 s.2.2.1 s.2.2.2) (fun s : Int32 × Int32 × Int32 × Mm => (0, s.2.2.2)) FU s).2) := by
  have key : ∀ s : Int32 × Int32 × Int32 × Mm, FrS [49] (s.2.2.2) (fun s : Int32 × Int32 × Int32 × Mm => s.2.2.2) (fun r : Int32 × Mm => r.2) ((fun s : Int32 × Int32 × Int32 × Mm => bd_X12_number_13  s.1 s.2.1 s.2.2.1 s.2.2.2) s) := by
    rintro ⟨x1, x2, x3, μ⟩
    show FrS [49] μ (fun s : Int32 × Int32 × Int32 × Mm => s.2.2.2) (fun r : Int32 × Mm => r.2) (bd_X12_number_13  x1 x2 x3 μ)
    unfold bd_X12_number_13
    refine FrS.ite ?_ ?_
    · exact FrS.inr Fr.rfl
    · refine FrS.ite ?_ ?_
      · exact FrS.inr Fr.rfl
      · refine lt_ (P := fun z => FrS [49] μ (fun s : Int32 × Int32 × Int32 × Mm => s.2.2.2) (fun r : Int32 × Mm => r.2) z) ((upI μ 49 10 ((μ.1 49 10) + 1))) (fun μ5 : Mm => .inl (x1, (((10 * x2) + (μ.1 54 (Int32.toNatClampNeg (μ.1 49 10)))) - 48), (x3 + 1), μ5)) (fun μ5 eμ5 => ?_)
        have fμ5 : Fr [49] μ μ5 := by
          rw [eμ5]
          exact Fr.up Fr.rfl (by simp)
        exact FrS.inl fμ5
  exact Fr_whlK (S := [49]) (f := (fun s : Int32 × Int32 × Int32 × Mm => bd_X12_number_13  s.1 s.2.1 s.2.2.1 s.2.2.2)) (dd := (fun s : Int32 × Int32 × Int32 × Mm => (0, s.2.2.2))) (fun s : Int32 × Int32 × Int32 × Mm => s.2.2.2) (fun r : Int32 × Mm => r.2) (fun _ => rfl) key FU s
set_option maxRecDepth 20000 in
set_option maxHeartbeats 400000 in
theorem fr_X12_number (p0 : Int32) (μ : Mm) : Fr [49] μ (e_X12_number p0 μ) := by
  unfold e_X12_number
  refine Fr.ite ?_ ?_
  · exact Fr.rfl
  · refine lt_ (P := fun z => Fr [49] μ z) (whl (fun s : Int32 × Int32 × Int32 × Mm => bd_X12_number_13  s.1 s.2.1 s.2.2.1 s.2.2.2) (fun s : Int32 × Int32 × Int32 × Mm => (0, s.2.2.2)) FU (p0, 0, 0, μ)) (fun r4 : Int32 × Mm => (r4.2)) (fun r4 er4 => ?_)
    have fr4 : Fr [49] μ (r4.2) := by
      rw [er4]
      exact Fr.call Fr.rfl (fw_X12_number_13  _) (by simp)
    exact fr4
set_option maxRecDepth 20000 in
set_option maxHeartbeats 400000 in
theorem fw_X12_ruled_4  (s : Int32 × Int32 × Mm) : Fr [59] (s.2.2) ((whl (fun s : Int32 × Int32 × Mm => bd_X12_ruled_4  s.1 s.2.1 s.2.2) (fun s : Int32 × Int32 × Mm => s.2.2) FU s)) := by
  have key : ∀ s : Int32 × Int32 × Mm, FrS [59] (s.2.2) (fun s : Int32 × Int32 × Mm => s.2.2) (fun r : Mm => r) ((fun s : Int32 × Int32 × Mm => bd_X12_ruled_4  s.1 s.2.1 s.2.2) s) := by
    rintro ⟨x1, x2, μ⟩
    show FrS [59] μ (fun s : Int32 × Int32 × Mm => s.2.2) (fun r : Mm => r) (bd_X12_ruled_4  x1 x2 μ)
    unfold bd_X12_ruled_4
    refine FrS.ite ?_ ?_
    · exact FrS.inr Fr.rfl
    · refine lt_ (P := fun z => FrS [59] μ (fun s : Int32 × Int32 × Mm => s.2.2) (fun r : Mm => r) z) ((if (μ.1 57 (Int32.toNatClampNeg x2)) = 3000 then ((upI μ 59 (Int32.toNatClampNeg (x1 - 1)) (-(μ.1 59 (Int32.toNatClampNeg (x1 - 1)))))) else (if (μ.1 57 (Int32.toNatClampNeg x2)) < 2000 then ((upI μ 59 (Int32.toNatClampNeg x1) (if (μ.1 57 (Int32.toNatClampNeg x2)) < 1000 then (μ.1 57 (Int32.toNatClampNeg x2)) else (μ.1 60 (Int32.toNatClampNeg ((μ.1 57 (Int32.toNatClampNeg x2)) - 1000))) : Int32))) else ((upI μ 59 (Int32.toNatClampNeg ((x1 + (-1)) - 1)) (v_X12_worked ((μ.1 57 (Int32.toNatClampNeg x2)) - 2000) (μ.1 59 (Int32.toNatClampNeg ((x1 + (-1)) - 1))) (μ.1 59 (Int32.toNatClampNeg (x1 + (-1))))))) : Mm) : Mm)) (fun μ18 : Mm => .inl ((if (μ.1 57 (Int32.toNatClampNeg x2)) = 3000 then x1 else (if (μ.1 57 (Int32.toNatClampNeg x2)) < 2000 then (x1 + 1) else (x1 + (-1)) : Int32) : Int32), (x2 + 1), μ18)) (fun μ18 eμ18 => ?_)
      have fμ18 : Fr [59] μ μ18 := by
        rw [eμ18]
        repeat' (first | with_reducible assumption | with_reducible exact Fr.rfl | with_reducible refine Fr.ite ?_ ?_ | with_reducible refine Fr.up ?_ (by simp) | with_reducible refine Fr.upJ ?_ (by simp))
      exact FrS.inl fμ18
  exact Fr_whlK (S := [59]) (f := (fun s : Int32 × Int32 × Mm => bd_X12_ruled_4  s.1 s.2.1 s.2.2)) (dd := (fun s : Int32 × Int32 × Mm => s.2.2)) (fun s : Int32 × Int32 × Mm => s.2.2) (fun r : Mm => r) (fun _ => rfl) key FU s
set_option maxRecDepth 20000 in
set_option maxHeartbeats 400000 in
theorem fr_X12_ruled  (μ : Mm) : Fr [59] μ (e_X12_ruled  μ) := by
  unfold e_X12_ruled
  refine lt_ (P := fun z => Fr [59] μ z) (whl (fun s : Int32 × Int32 × Mm => bd_X12_ruled_4  s.1 s.2.1 s.2.2) (fun s : Int32 × Int32 × Mm => s.2.2) FU (0, 0, μ)) (fun r2 : Mm => r2) (fun r2 er2 => ?_)
  have fr2 : Fr [59] μ r2 := by
    rw [er2]
    exact Fr.call Fr.rfl (fw_X12_ruled_4  _) (by simp)
  exact fr2
set_option maxRecDepth 20000 in
set_option maxHeartbeats 400000 in
theorem fr_X1_wayOf (b : Nat) (p0 : Int32) (p1 : Nat) (p2 : Int32) (μ : Mm) : Fr [(b + 6), (p1 + 2)] μ (e_X1_wayOf b p0 p1 p2 μ) := by
  unfold e_X1_wayOf
  refine Fr.ite ?_ ?_
  · exact Fr.rfl
  · refine Fr.ite ?_ ?_
    · exact Fr.rfl
    · refine Fr.ite ?_ ?_
      · refine lt_ (P := fun z => Fr [(b + 6), (p1 + 2)] μ z) ((upI μ (b + 6) (Int32.toNatClampNeg 0) (μ.1 (b + 2) (Int32.toNatClampNeg p0)))) (fun μ5 : Mm => (let μ7 : Mm := (upI μ5 (b + 6) (Int32.toNatClampNeg 1) (μ5.1 (b + 3) (Int32.toNatClampNeg p0))); (let μ10 : Mm := (upI μ7 (b + 6) (Int32.toNatClampNeg 2) ((μ7.1 (b + 1) (Int32.toNatClampNeg p0)) + (μ7.1 (b + 4) (Int32.toNatClampNeg p0)))); (let μ11 : Mm := (upI μ10 (b + 6) (Int32.toNatClampNeg 3) p2); (let μ16 : Mm := (upI μ11 (b + 6) (Int32.toNatClampNeg 4) (if (μ11.1 p1 2) = 0 then 0 else ((v_J6_bitCount_0f7a4 (v_X1_standingOn b (μ11.1 (b + 3) (Int32.toNatClampNeg p0)) μ11)) - 1) : Int32)); (let μ17 : Mm := (upI μ16 (b + 6) (Int32.toNatClampNeg 5) p0); (let μ18 : Mm := (upI μ17 (b + 6) (Int32.toNatClampNeg 6) ((μ17.1 b 6) - (μ17.1 b 6) / 7 * 7)); (let μ20 : Mm := (e_X5_value p1 (b + 6) μ18); μ20)))))))) (fun μ5 eμ5 => ?_)
        have fμ5 : Fr [(b + 6), (p1 + 2)] μ μ5 := by
          rw [eμ5]
          exact Fr.up Fr.rfl (by simp)
        refine lt_ (P := fun z => Fr [(b + 6), (p1 + 2)] μ z) ((upI μ5 (b + 6) (Int32.toNatClampNeg 1) (μ5.1 (b + 3) (Int32.toNatClampNeg p0)))) (fun μ7 : Mm => (let μ10 : Mm := (upI μ7 (b + 6) (Int32.toNatClampNeg 2) ((μ7.1 (b + 1) (Int32.toNatClampNeg p0)) + (μ7.1 (b + 4) (Int32.toNatClampNeg p0)))); (let μ11 : Mm := (upI μ10 (b + 6) (Int32.toNatClampNeg 3) p2); (let μ16 : Mm := (upI μ11 (b + 6) (Int32.toNatClampNeg 4) (if (μ11.1 p1 2) = 0 then 0 else ((v_J6_bitCount_0f7a4 (v_X1_standingOn b (μ11.1 (b + 3) (Int32.toNatClampNeg p0)) μ11)) - 1) : Int32)); (let μ17 : Mm := (upI μ16 (b + 6) (Int32.toNatClampNeg 5) p0); (let μ18 : Mm := (upI μ17 (b + 6) (Int32.toNatClampNeg 6) ((μ17.1 b 6) - (μ17.1 b 6) / 7 * 7)); (let μ20 : Mm := (e_X5_value p1 (b + 6) μ18); μ20))))))) (fun μ7 eμ7 => ?_)
        have fμ7 : Fr [(b + 6), (p1 + 2)] μ μ7 := by
          rw [eμ7]
          exact Fr.up fμ5 (by simp)
        refine lt_ (P := fun z => Fr [(b + 6), (p1 + 2)] μ z) ((upI μ7 (b + 6) (Int32.toNatClampNeg 2) ((μ7.1 (b + 1) (Int32.toNatClampNeg p0)) + (μ7.1 (b + 4) (Int32.toNatClampNeg p0))))) (fun μ10 : Mm => (let μ11 : Mm := (upI μ10 (b + 6) (Int32.toNatClampNeg 3) p2); (let μ16 : Mm := (upI μ11 (b + 6) (Int32.toNatClampNeg 4) (if (μ11.1 p1 2) = 0 then 0 else ((v_J6_bitCount_0f7a4 (v_X1_standingOn b (μ11.1 (b + 3) (Int32.toNatClampNeg p0)) μ11)) - 1) : Int32)); (let μ17 : Mm := (upI μ16 (b + 6) (Int32.toNatClampNeg 5) p0); (let μ18 : Mm := (upI μ17 (b + 6) (Int32.toNatClampNeg 6) ((μ17.1 b 6) - (μ17.1 b 6) / 7 * 7)); (let μ20 : Mm := (e_X5_value p1 (b + 6) μ18); μ20)))))) (fun μ10 eμ10 => ?_)
        have fμ10 : Fr [(b + 6), (p1 + 2)] μ μ10 := by
          rw [eμ10]
          exact Fr.up fμ7 (by simp)
        refine lt_ (P := fun z => Fr [(b + 6), (p1 + 2)] μ z) ((upI μ10 (b + 6) (Int32.toNatClampNeg 3) p2)) (fun μ11 : Mm => (let μ16 : Mm := (upI μ11 (b + 6) (Int32.toNatClampNeg 4) (if (μ11.1 p1 2) = 0 then 0 else ((v_J6_bitCount_0f7a4 (v_X1_standingOn b (μ11.1 (b + 3) (Int32.toNatClampNeg p0)) μ11)) - 1) : Int32)); (let μ17 : Mm := (upI μ16 (b + 6) (Int32.toNatClampNeg 5) p0); (let μ18 : Mm := (upI μ17 (b + 6) (Int32.toNatClampNeg 6) ((μ17.1 b 6) - (μ17.1 b 6) / 7 * 7)); (let μ20 : Mm := (e_X5_value p1 (b + 6) μ18); μ20))))) (fun μ11 eμ11 => ?_)
        have fμ11 : Fr [(b + 6), (p1 + 2)] μ μ11 := by
          rw [eμ11]
          exact Fr.up fμ10 (by simp)
        refine lt_ (P := fun z => Fr [(b + 6), (p1 + 2)] μ z) ((upI μ11 (b + 6) (Int32.toNatClampNeg 4) (if (μ11.1 p1 2) = 0 then 0 else ((v_J6_bitCount_0f7a4 (v_X1_standingOn b (μ11.1 (b + 3) (Int32.toNatClampNeg p0)) μ11)) - 1) : Int32))) (fun μ16 : Mm => (let μ17 : Mm := (upI μ16 (b + 6) (Int32.toNatClampNeg 5) p0); (let μ18 : Mm := (upI μ17 (b + 6) (Int32.toNatClampNeg 6) ((μ17.1 b 6) - (μ17.1 b 6) / 7 * 7)); (let μ20 : Mm := (e_X5_value p1 (b + 6) μ18); μ20)))) (fun μ16 eμ16 => ?_)
        have fμ16 : Fr [(b + 6), (p1 + 2)] μ μ16 := by
          rw [eμ16]
          exact Fr.up fμ11 (by simp)
        refine lt_ (P := fun z => Fr [(b + 6), (p1 + 2)] μ z) ((upI μ16 (b + 6) (Int32.toNatClampNeg 5) p0)) (fun μ17 : Mm => (let μ18 : Mm := (upI μ17 (b + 6) (Int32.toNatClampNeg 6) ((μ17.1 b 6) - (μ17.1 b 6) / 7 * 7)); (let μ20 : Mm := (e_X5_value p1 (b + 6) μ18); μ20))) (fun μ17 eμ17 => ?_)
        have fμ17 : Fr [(b + 6), (p1 + 2)] μ μ17 := by
          rw [eμ17]
          exact Fr.up fμ16 (by simp)
        refine lt_ (P := fun z => Fr [(b + 6), (p1 + 2)] μ z) ((upI μ17 (b + 6) (Int32.toNatClampNeg 6) ((μ17.1 b 6) - (μ17.1 b 6) / 7 * 7))) (fun μ18 : Mm => (let μ20 : Mm := (e_X5_value p1 (b + 6) μ18); μ20)) (fun μ18 eμ18 => ?_)
        have fμ18 : Fr [(b + 6), (p1 + 2)] μ μ18 := by
          rw [eμ18]
          exact Fr.up fμ17 (by simp)
        refine lt_ (P := fun z => Fr [(b + 6), (p1 + 2)] μ z) ((e_X5_value p1 (b + 6) μ18)) (fun μ20 : Mm => μ20) (fun μ20 eμ20 => ?_)
        have fμ20 : Fr [(b + 6), (p1 + 2)] μ μ20 := by
          rw [eμ20]
          exact Fr.call fμ18 (fr_X5_value p1 (b + 6) μ18) (by simp)
        exact fμ20
      · exact Fr.rfl
set_option maxRecDepth 20000 in
set_option maxHeartbeats 400000 in
theorem fr_X5_close (b : Nat) (μ : Mm) : Fr [(b + 1), (b + 3), b] μ (e_X5_close b μ) := by
  unfold e_X5_close
  refine Fr.ite ?_ ?_
  · refine lt_ (P := fun z => Fr [(b + 1), (b + 3), b] μ z) ((e_X5_emitWaiting b 1 μ)) (fun μ3 : Mm => (let μ5 : Mm := (e_X4_pop (b + 3) μ3); (let μ6 : Mm := (upI μ5 b 6 ((μ5.1 b 6) - 1)); μ6))) (fun μ3 eμ3 => ?_)
    have fμ3 : Fr [(b + 1), (b + 3), b] μ μ3 := by
      rw [eμ3]
      exact Fr.call Fr.rfl (fr_X5_emitWaiting b 1 μ) (by simp)
    refine lt_ (P := fun z => Fr [(b + 1), (b + 3), b] μ z) ((e_X4_pop (b + 3) μ3)) (fun μ5 : Mm => (let μ6 : Mm := (upI μ5 b 6 ((μ5.1 b 6) - 1)); μ6)) (fun μ5 eμ5 => ?_)
    have fμ5 : Fr [(b + 1), (b + 3), b] μ μ5 := by
      rw [eμ5]
      exact Fr.call fμ3 (fr_X4_pop (b + 3) μ3) (by simp)
    refine lt_ (P := fun z => Fr [(b + 1), (b + 3), b] μ z) ((upI μ5 b 6 ((μ5.1 b 6) - 1))) (fun μ6 : Mm => μ6) (fun μ6 eμ6 => ?_)
    have fμ6 : Fr [(b + 1), (b + 3), b] μ μ6 := by
      rw [eμ6]
      exact Fr.up fμ5 (by simp)
    exact fμ6
  · exact Fr.rfl
set_option maxRecDepth 20000 in
set_option maxHeartbeats 400000 in
theorem fw_X7_setOut_2 (p0 : Nat) (s : Int32 × Int32 × Mm) : Fr [36, 37] (s.2.2) ((whl (fun s : Int32 × Int32 × Mm => bd_X7_setOut_2 p0 s.1 s.2.1 s.2.2) (fun s : Int32 × Int32 × Mm => s.2.2) FU s)) := by
  have key : ∀ s : Int32 × Int32 × Mm, FrS [36, 37] (s.2.2) (fun s : Int32 × Int32 × Mm => s.2.2) (fun r : Mm => r) ((fun s : Int32 × Int32 × Mm => bd_X7_setOut_2 p0 s.1 s.2.1 s.2.2) s) := by
    rintro ⟨x2, x3, μ⟩
    show FrS [36, 37] μ (fun s : Int32 × Int32 × Mm => s.2.2) (fun r : Mm => r) (bd_X7_setOut_2 p0 x2 x3 μ)
    unfold bd_X7_setOut_2
    refine FrS.ite ?_ ?_
    · exact FrS.inr Fr.rfl
    · refine lt_ (P := fun z => FrS [36, 37] μ (fun s : Int32 × Int32 × Mm => s.2.2) (fun r : Mm => r) z) ((upI μ 36 (Int32.toNatClampNeg x3) (v_X1_load p0 x3 μ))) (fun μ4 : Mm => (let μ9 : Mm := (upI μ4 37 (Int32.toNatClampNeg x3) (if (v_X11_isIn x2 x3) = 0 then 0 else (9 - (v_X1_placeOf p0 x3 μ4)) : Int32)); .inl (x2, (x3 + 1), μ9))) (fun μ4 eμ4 => ?_)
      have fμ4 : Fr [36, 37] μ μ4 := by
        rw [eμ4]
        exact Fr.up Fr.rfl (by simp)
      refine lt_ (P := fun z => FrS [36, 37] μ (fun s : Int32 × Int32 × Mm => s.2.2) (fun r : Mm => r) z) ((upI μ4 37 (Int32.toNatClampNeg x3) (if (v_X11_isIn x2 x3) = 0 then 0 else (9 - (v_X1_placeOf p0 x3 μ4)) : Int32))) (fun μ9 : Mm => .inl (x2, (x3 + 1), μ9)) (fun μ9 eμ9 => ?_)
      have fμ9 : Fr [36, 37] μ μ9 := by
        rw [eμ9]
        exact Fr.up fμ4 (by simp)
      exact FrS.inl fμ9
  exact Fr_whlK (S := [36, 37]) (f := (fun s : Int32 × Int32 × Mm => bd_X7_setOut_2 p0 s.1 s.2.1 s.2.2)) (dd := (fun s : Int32 × Int32 × Mm => s.2.2)) (fun s : Int32 × Int32 × Mm => s.2.2) (fun r : Mm => r) (fun _ => rfl) key FU s
set_option maxRecDepth 20000 in
set_option maxHeartbeats 400000 in
theorem fr_X7_setOut (p0 : Nat) (p1 : Int32) (μ : Mm) : Fr [36, 37] μ (e_X7_setOut p0 p1 μ) := by
  unfold e_X7_setOut
  refine lt_ (P := fun z => Fr [36, 37] μ z) (whl (fun s : Int32 × Int32 × Mm => bd_X7_setOut_2 p0 s.1 s.2.1 s.2.2) (fun s : Int32 × Int32 × Mm => s.2.2) FU (p1, 0, μ)) (fun r2 : Mm => r2) (fun r2 er2 => ?_)
  have fr2 : Fr [36, 37] μ r2 := by
    rw [er2]
    exact Fr.call Fr.rfl (fw_X7_setOut_2 p0 _) (by simp)
  exact fr2
set_option maxRecDepth 20000 in
set_option maxHeartbeats 400000 in
theorem fw_X8_search_12  (s : Int32 × Int32 × Mm) : Fr [33] (s.2.2) ((whl (fun s : Int32 × Int32 × Mm => bd_X8_search_12  s.1 s.2.1 s.2.2) (fun s : Int32 × Int32 × Mm => s.2.2) FU s)) := by
  have key : ∀ s : Int32 × Int32 × Mm, FrS [33] (s.2.2) (fun s : Int32 × Int32 × Mm => s.2.2) (fun r : Mm => r) ((fun s : Int32 × Int32 × Mm => bd_X8_search_12  s.1 s.2.1 s.2.2) s) := by
    rintro ⟨x1, x2, μ⟩
    show FrS [33] μ (fun s : Int32 × Int32 × Mm => s.2.2) (fun r : Mm => r) (bd_X8_search_12  x1 x2 μ)
    unfold bd_X8_search_12
    refine FrS.ite ?_ ?_
    · exact FrS.inr Fr.rfl
    · refine lt_ (P := fun z => FrS [33] μ (fun s : Int32 × Int32 × Mm => s.2.2) (fun r : Mm => r) z) ((if (x2 &&& ((μ.1 33 1) ^^^ (-1))) = 0 then (if (v_X8_does (v_X8_total x2 μ) x1) = 0 then μ else ((upI ((if (μ.1 33 4) = 0 then ((upI μ 33 3 x2)) else (if (v_J6_bitCount_0f7a4 (μ.1 33 3)) ≤ (v_J6_bitCount_0f7a4 x2) then μ else ((upI μ 33 3 x2)) : Mm) : Mm)) 33 4 ((((if (μ.1 33 4) = 0 then ((upI μ 33 3 x2)) else (if (v_J6_bitCount_0f7a4 (μ.1 33 3)) ≤ (v_J6_bitCount_0f7a4 x2) then μ else ((upI μ 33 3 x2)) : Mm) : Mm)).1 33 4) + 1))) : Mm) else μ : Mm)) (fun μ12 : Mm => .inl (x1, (x2 + 1), μ12)) (fun μ12 eμ12 => ?_)
      have fμ12 : Fr [33] μ μ12 := by
        rw [eμ12]
        repeat' (first | with_reducible assumption | with_reducible exact Fr.rfl | with_reducible refine Fr.ite ?_ ?_ | with_reducible refine Fr.up ?_ (by simp) | with_reducible refine Fr.upJ ?_ (by simp))
      exact FrS.inl fμ12
  exact Fr_whlK (S := [33]) (f := (fun s : Int32 × Int32 × Mm => bd_X8_search_12  s.1 s.2.1 s.2.2)) (dd := (fun s : Int32 × Int32 × Mm => s.2.2)) (fun s : Int32 × Int32 × Mm => s.2.2) (fun r : Mm => r) (fun _ => rfl) key FU s
set_option maxRecDepth 20000 in
set_option maxHeartbeats 400000 in
theorem fr_X8_search (p0 : Int32) (μ : Mm) : Fr [33] μ (e_X8_search p0 μ) := by
  unfold e_X8_search
  refine lt_ (P := fun z => Fr [33] μ z) ((upI μ 33 4 0)) (fun μ1 : Mm => (let μ2 : Mm := (upI μ1 33 3 0); (let r4 : Mm := whl (fun s : Int32 × Int32 × Mm => bd_X8_search_12  s.1 s.2.1 s.2.2) (fun s : Int32 × Int32 × Mm => s.2.2) FU (p0, 0, μ2); r4))) (fun μ1 eμ1 => ?_)
  have fμ1 : Fr [33] μ μ1 := by
    rw [eμ1]
    exact Fr.up Fr.rfl (by simp)
  refine lt_ (P := fun z => Fr [33] μ z) ((upI μ1 33 3 0)) (fun μ2 : Mm => (let r4 : Mm := whl (fun s : Int32 × Int32 × Mm => bd_X8_search_12  s.1 s.2.1 s.2.2) (fun s : Int32 × Int32 × Mm => s.2.2) FU (p0, 0, μ2); r4)) (fun μ2 eμ2 => ?_)
  have fμ2 : Fr [33] μ μ2 := by
    rw [eμ2]
    exact Fr.up fμ1 (by simp)
  refine lt_ (P := fun z => Fr [33] μ z) (whl (fun s : Int32 × Int32 × Mm => bd_X8_search_12  s.1 s.2.1 s.2.2) (fun s : Int32 × Int32 × Mm => s.2.2) FU (p0, 0, μ2)) (fun r4 : Mm => r4) (fun r4 er4 => ?_)
  have fr4 : Fr [33] μ r4 := by
    rw [er4]
    exact Fr.call fμ2 (fw_X8_search_12  _) (by simp)
  exact fr4
set_option maxRecDepth 20000 in
set_option maxHeartbeats 400000 in
theorem fw_X11_backs_26  (s : Int32 × Int32 × Int32 × Mm) : Fr [27, 28] (s.2.2.2) ((whl (fun s : Int32 × Int32 × Int32 × Mm => bd_X11_backs_26  s.1 s.2.1 s.2.2.1 s.2.2.2) (fun s : Int32 × Int32 × Int32 × Mm => (0, 0, s.2.2.2)) FU s).2.2) := by
  have key : ∀ s : Int32 × Int32 × Int32 × Mm, FrS [27, 28] (s.2.2.2) (fun s : Int32 × Int32 × Int32 × Mm => s.2.2.2) (fun r : Int32 × Int32 × Mm => r.2.2) ((fun s : Int32 × Int32 × Int32 × Mm => bd_X11_backs_26  s.1 s.2.1 s.2.2.1 s.2.2.2) s) := by
    rintro ⟨x1, x2, x3, μ⟩
    show FrS [27, 28] μ (fun s : Int32 × Int32 × Int32 × Mm => s.2.2.2) (fun r : Int32 × Int32 × Mm => r.2.2) (bd_X11_backs_26  x1 x2 x3 μ)
    unfold bd_X11_backs_26
    refine FrS.ite ?_ ?_
    · exact FrS.inr Fr.rfl
    · refine lt_ (P := fun z => FrS [27, 28] μ (fun s : Int32 × Int32 × Int32 × Mm => s.2.2.2) (fun r : Int32 × Int32 × Mm => r.2.2) z) ((if (v_X1_areBackToBack 1 x2 x3 μ) = 0 then μ else ((if x1 = 0 then ((e_X10_add (Int32.toInt64 x3) ((e_X10_add (Int32.toInt64 x2) μ)))) else μ : Mm)) : Mm)) (fun μ11 : Mm => .inl ((if (v_X1_areBackToBack 1 x2 x3 μ) = 0 then x1 else (x1 + 1) : Int32), x2, (x3 + 1), μ11)) (fun μ11 eμ11 => ?_)
      have fμ11 : Fr [27, 28] μ μ11 := by
        rw [eμ11]
        repeat' (first | with_reducible assumption | with_reducible exact Fr.rfl | with_reducible refine Fr.ite ?_ ?_ | with_reducible refine Fr.up ?_ (by simp) | with_reducible refine Fr.upJ ?_ (by simp) | with_reducible refine Fr.call ?_ (fr_X10_add _ _) (by simp) | with_reducible refine Fr.call ?_ (fr_X10_begin _) (by simp))
      exact FrS.inl fμ11
  exact Fr_whlK (S := [27, 28]) (f := (fun s : Int32 × Int32 × Int32 × Mm => bd_X11_backs_26  s.1 s.2.1 s.2.2.1 s.2.2.2)) (dd := (fun s : Int32 × Int32 × Int32 × Mm => (0, 0, s.2.2.2))) (fun s : Int32 × Int32 × Int32 × Mm => s.2.2.2) (fun r : Int32 × Int32 × Mm => r.2.2) (fun _ => rfl) key FU s
set_option maxRecDepth 20000 in
set_option maxHeartbeats 400000 in
theorem fw_X11_backs_11  (s : Int32 × Int32 × Mm) : Fr [27, 28] (s.2.2) ((whl (fun s : Int32 × Int32 × Mm => bd_X11_backs_11  s.1 s.2.1 s.2.2) (fun s : Int32 × Int32 × Mm => (0, s.2.2)) FU s).2) := by
  have key : ∀ s : Int32 × Int32 × Mm, FrS [27, 28] (s.2.2) (fun s : Int32 × Int32 × Mm => s.2.2) (fun r : Int32 × Mm => r.2) ((fun s : Int32 × Int32 × Mm => bd_X11_backs_11  s.1 s.2.1 s.2.2) s) := by
    rintro ⟨x1, x2, μ⟩
    show FrS [27, 28] μ (fun s : Int32 × Int32 × Mm => s.2.2) (fun r : Int32 × Mm => r.2) (bd_X11_backs_11  x1 x2 μ)
    unfold bd_X11_backs_11
    refine FrS.ite ?_ ?_
    · exact FrS.inr Fr.rfl
    · refine lt_ (P := fun z => FrS [27, 28] μ (fun s : Int32 × Int32 × Mm => s.2.2) (fun r : Int32 × Mm => r.2) z) (whl (fun s : Int32 × Int32 × Int32 × Mm => bd_X11_backs_26  s.1 s.2.1 s.2.2.1 s.2.2.2) (fun s : Int32 × Int32 × Int32 × Mm => (0, 0, s.2.2.2)) FU (x1, x2, (x2 + 1), μ)) (fun r3 : Int32 × Int32 × Mm => .inl ((r3.1), ((r3.2.1) + 1), (r3.2.2))) (fun r3 er3 => ?_)
      have fr3 : Fr [27, 28] μ (r3.2.2) := by
        rw [er3]
        exact Fr.call Fr.rfl (fw_X11_backs_26  _) (by simp)
      exact FrS.inl fr3
  exact Fr_whlK (S := [27, 28]) (f := (fun s : Int32 × Int32 × Mm => bd_X11_backs_11  s.1 s.2.1 s.2.2)) (dd := (fun s : Int32 × Int32 × Mm => (0, s.2.2))) (fun s : Int32 × Int32 × Mm => s.2.2) (fun r : Int32 × Mm => r.2) (fun _ => rfl) key FU s
set_option maxRecDepth 20000 in
set_option maxHeartbeats 400000 in
theorem fr_X11_backs  (μ : Mm) : Fr [27, 28] μ (e_X11_backs  μ) := by
  unfold e_X11_backs
  refine lt_ (P := fun z => Fr [27, 28] μ z) ((e_X10_begin  μ)) (fun μ1 : Mm => (let r3 : Int32 × Mm := whl (fun s : Int32 × Int32 × Mm => bd_X11_backs_11  s.1 s.2.1 s.2.2) (fun s : Int32 × Int32 × Mm => (0, s.2.2)) FU (0, 0, μ1); (r3.2))) (fun μ1 eμ1 => ?_)
  have fμ1 : Fr [27, 28] μ μ1 := by
    rw [eμ1]
    exact Fr.call Fr.rfl (fr_X10_begin μ) (by simp)
  refine lt_ (P := fun z => Fr [27, 28] μ z) (whl (fun s : Int32 × Int32 × Mm => bd_X11_backs_11  s.1 s.2.1 s.2.2) (fun s : Int32 × Int32 × Mm => (0, s.2.2)) FU (0, 0, μ1)) (fun r3 : Int32 × Mm => (r3.2)) (fun r3 er3 => ?_)
  have fr3 : Fr [27, 28] μ (r3.2) := by
    rw [er3]
    exact Fr.call fμ1 (fw_X11_backs_11  _) (by simp)
  exact fr3
set_option maxRecDepth 20000 in
set_option maxHeartbeats 400000 in
theorem fr_X11_heads  (μ : Mm) : Fr [27, 28] μ (e_X11_heads  μ) := by
  unfold e_X11_heads
  refine lt_ (P := fun z => Fr [27, 28] μ z) (whl (fun s : Int32 × Int32 × Int32 × Int32 => bd_X11_heads_9  μ s.1 s.2.1 s.2.2.1 s.2.2.2) (fun _ : Int32 × Int32 × Int32 × Int32 => (0, 0, 0)) FU (0, 0, 0, 0)) (fun r2 : Int32 × Int32 × Int32 => (let μ3 : Mm := (e_X10_begin  μ); (let μ5 : Mm := (e_X10_add (Int32.toInt64 (1000 + (r2.2.1))) μ3); (let μ7 : Mm := (e_X10_add (Int32.toInt64 (1000 + (r2.2.2))) μ5); (let μ10 : Mm := (e_X10_add (Int32.toInt64 (10000 + (v_X1_care 1 μ7))) μ7); μ10))))) (fun r2 er2 => ?_)
  refine lt_ (P := fun z => Fr [27, 28] μ z) ((e_X10_begin  μ)) (fun μ3 : Mm => (let μ5 : Mm := (e_X10_add (Int32.toInt64 (1000 + (r2.2.1))) μ3); (let μ7 : Mm := (e_X10_add (Int32.toInt64 (1000 + (r2.2.2))) μ5); (let μ10 : Mm := (e_X10_add (Int32.toInt64 (10000 + (v_X1_care 1 μ7))) μ7); μ10)))) (fun μ3 eμ3 => ?_)
  have fμ3 : Fr [27, 28] μ μ3 := by
    rw [eμ3]
    exact Fr.call Fr.rfl (fr_X10_begin μ) (by simp)
  refine lt_ (P := fun z => Fr [27, 28] μ z) ((e_X10_add (Int32.toInt64 (1000 + (r2.2.1))) μ3)) (fun μ5 : Mm => (let μ7 : Mm := (e_X10_add (Int32.toInt64 (1000 + (r2.2.2))) μ5); (let μ10 : Mm := (e_X10_add (Int32.toInt64 (10000 + (v_X1_care 1 μ7))) μ7); μ10))) (fun μ5 eμ5 => ?_)
  have fμ5 : Fr [27, 28] μ μ5 := by
    rw [eμ5]
    exact Fr.call fμ3 (fr_X10_add (Int32.toInt64 (1000 + (r2.2.1))) μ3) (by simp)
  refine lt_ (P := fun z => Fr [27, 28] μ z) ((e_X10_add (Int32.toInt64 (1000 + (r2.2.2))) μ5)) (fun μ7 : Mm => (let μ10 : Mm := (e_X10_add (Int32.toInt64 (10000 + (v_X1_care 1 μ7))) μ7); μ10)) (fun μ7 eμ7 => ?_)
  have fμ7 : Fr [27, 28] μ μ7 := by
    rw [eμ7]
    exact Fr.call fμ5 (fr_X10_add (Int32.toInt64 (1000 + (r2.2.2))) μ5) (by simp)
  refine lt_ (P := fun z => Fr [27, 28] μ z) ((e_X10_add (Int32.toInt64 (10000 + (v_X1_care 1 μ7))) μ7)) (fun μ10 : Mm => μ10) (fun μ10 eμ10 => ?_)
  have fμ10 : Fr [27, 28] μ μ10 := by
    rw [eμ10]
    exact Fr.call fμ7 (fr_X10_add (Int32.toInt64 (10000 + (v_X1_care 1 μ7))) μ7) (by simp)
  exact fμ10
set_option maxRecDepth 20000 in
set_option maxHeartbeats 400000 in
theorem fr_X11_leads (p0 : Int32) (p1 : Int32) (μ : Mm) : Fr [29, 30, 4] μ (e_X11_leads p0 p1 μ) := by
  unfold e_X11_leads
  refine lt_ (P := fun z => Fr [29, 30, 4] μ z) ((e_X3_note 1 μ)) (fun μ2 : Mm => (let μ4 : Mm := (e_X1_lead 1 p0 p1 μ2); (let μ5 : Mm := (e_X11_committed (v_X1_lead 1 p0 p1 μ2) μ4); μ5))) (fun μ2 eμ2 => ?_)
  have fμ2 : Fr [29, 30, 4] μ μ2 := by
    rw [eμ2]
    exact Fr.call Fr.rfl (fr_X3_note 1 μ) (by simp)
  refine lt_ (P := fun z => Fr [29, 30, 4] μ z) ((e_X1_lead 1 p0 p1 μ2)) (fun μ4 : Mm => (let μ5 : Mm := (e_X11_committed (v_X1_lead 1 p0 p1 μ2) μ4); μ5)) (fun μ4 eμ4 => ?_)
  have fμ4 : Fr [29, 30, 4] μ μ4 := by
    rw [eμ4]
    exact Fr.call fμ2 (fr_X1_lead 1 p0 p1 μ2) (by simp)
  refine lt_ (P := fun z => Fr [29, 30, 4] μ z) ((e_X11_committed (v_X1_lead 1 p0 p1 μ2) μ4)) (fun μ5 : Mm => μ5) (fun μ5 eμ5 => ?_)
  have fμ5 : Fr [29, 30, 4] μ μ5 := by
    rw [eμ5]
    exact Fr.call fμ4 (fr_X11_committed (v_X1_lead 1 p0 p1 μ2) μ4) (by simp)
  exact fμ5
set_option maxRecDepth 20000 in
set_option maxHeartbeats 400000 in
theorem fr_X11_noon (p0 : Int32) (μ : Mm) : Fr [1, 29, 30] μ (e_X11_noon p0 μ) := by
  unfold e_X11_noon
  refine lt_ (P := fun z => Fr [1, 29, 30] μ z) ((e_X3_note 1 μ)) (fun μ2 : Mm => (let μ3 : Mm := (e_X1_setNoon 1 p0 μ2); (let μ4 : Mm := (e_X11_committed (v_X1_setNoon 1 p0 μ2) μ3); μ4))) (fun μ2 eμ2 => ?_)
  have fμ2 : Fr [1, 29, 30] μ μ2 := by
    rw [eμ2]
    exact Fr.call Fr.rfl (fr_X3_note 1 μ) (by simp)
  refine lt_ (P := fun z => Fr [1, 29, 30] μ z) ((e_X1_setNoon 1 p0 μ2)) (fun μ3 : Mm => (let μ4 : Mm := (e_X11_committed (v_X1_setNoon 1 p0 μ2) μ3); μ4)) (fun μ3 eμ3 => ?_)
  have fμ3 : Fr [1, 29, 30] μ μ3 := by
    rw [eμ3]
    exact Fr.call fμ2 (fr_X1_setNoon 1 p0 μ2) (by simp)
  refine lt_ (P := fun z => Fr [1, 29, 30] μ z) ((e_X11_committed (v_X1_setNoon 1 p0 μ2) μ3)) (fun μ4 : Mm => μ4) (fun μ4 eμ4 => ?_)
  have fμ4 : Fr [1, 29, 30] μ μ4 := by
    rw [eμ4]
    exact Fr.call fμ3 (fr_X11_committed (v_X1_setNoon 1 p0 μ2) μ3) (by simp)
  exact fμ4
set_option maxRecDepth 20000 in
set_option maxHeartbeats 400000 in
theorem fw_X11_people_41  (s : Int32 × Int32 × Int32 × Mm) : Fr [1, 2, 3, 4, 5] (s.2.2.2) ((whl (fun s : Int32 × Int32 × Int32 × Mm => bd_X11_people_41  s.1 s.2.1 s.2.2.1 s.2.2.2) (fun s : Int32 × Int32 × Int32 × Mm => (0, 0, s.2.2.2)) FU s).2.2) := by
  have key : ∀ s : Int32 × Int32 × Int32 × Mm, FrS [1, 2, 3, 4, 5] (s.2.2.2) (fun s : Int32 × Int32 × Int32 × Mm => s.2.2.2) (fun r : Int32 × Int32 × Mm => r.2.2) ((fun s : Int32 × Int32 × Int32 × Mm => bd_X11_people_41  s.1 s.2.1 s.2.2.1 s.2.2.2) s) := by
    rintro ⟨x1, x2, x3, μ⟩
    show FrS [1, 2, 3, 4, 5] μ (fun s : Int32 × Int32 × Int32 × Mm => s.2.2.2) (fun r : Int32 × Int32 × Mm => r.2.2) (bd_X11_people_41  x1 x2 x3 μ)
    unfold bd_X11_people_41
    refine FrS.ite ?_ ?_
    · exact FrS.inr Fr.rfl
    · refine lt_ (P := fun z => FrS [1, 2, 3, 4, 5] μ (fun s : Int32 × Int32 × Int32 × Mm => s.2.2.2) (fun r : Int32 × Int32 × Mm => r.2.2) z) ((e_X1_join 1 (v_X9_digit (x3 * 4) μ) (v_X9_signed ((x3 * 4) + 1) 45 μ) μ)) (fun μ5 : Mm => .inl (x1, x2, (x3 + 1), μ5)) (fun μ5 eμ5 => ?_)
      have fμ5 : Fr [1, 2, 3, 4, 5] μ μ5 := by
        rw [eμ5]
        exact Fr.call Fr.rfl (fr_X1_join 1 (v_X9_digit (x3 * 4) μ) (v_X9_signed ((x3 * 4) + 1) 45 μ) μ) (by simp)
      exact FrS.inl fμ5
  exact Fr_whlK (S := [1, 2, 3, 4, 5]) (f := (fun s : Int32 × Int32 × Int32 × Mm => bd_X11_people_41  s.1 s.2.1 s.2.2.1 s.2.2.2)) (dd := (fun s : Int32 × Int32 × Int32 × Mm => (0, 0, s.2.2.2))) (fun s : Int32 × Int32 × Int32 × Mm => s.2.2.2) (fun r : Int32 × Int32 × Mm => r.2.2) (fun _ => rfl) key FU s
set_option maxRecDepth 20000 in
set_option maxHeartbeats 400000 in
theorem fr_X11_people  (μ : Mm) : Fr [1, 2, 25, 29, 3, 32, 4, 5] μ (e_X11_people  μ) := by
  unfold e_X11_people
  refine lt_ (P := fun z => Fr [1, 2, 25, 29, 3, 32, 4, 5] μ z) ((if (v_X9_badLineSign (7 - (μ.1 1 0)) μ) = (-1) then (if (((μ.1 25 1) + 1) / 4) ≤ 0 then μ else ((e_X3_loseAll  ((whl (fun s : Int32 × Int32 × Int32 × Mm => bd_X11_people_41  s.1 s.2.1 s.2.2.1 s.2.2.2) (fun s : Int32 × Int32 × Int32 × Mm => (0, 0, s.2.2.2)) FU ((v_X9_badLineSign (7 - (μ.1 1 0)) μ), (((μ.1 25 1) + 1) / 4), 0, μ)).2.2))) : Mm) else μ : Mm)) (fun μ8 : Mm => (let μ9 : Mm := (e_X9_clear  μ8); μ9)) (fun μ8 eμ8 => ?_)
  have fμ8 : Fr [1, 2, 25, 29, 3, 32, 4, 5] μ μ8 := by
    rw [eμ8]
    repeat' (first | with_reducible assumption | with_reducible exact Fr.rfl | with_reducible refine Fr.ite ?_ ?_ | with_reducible refine Fr.up ?_ (by simp) | with_reducible refine Fr.upJ ?_ (by simp) | with_reducible refine Fr.call ?_ (fr_X1_join _ _ _ _) (by simp) | with_reducible refine Fr.call ?_ (fr_X3_loseAll _) (by simp) | with_reducible refine Fr.call ?_ (fr_X9_clear _) (by simp) | with_reducible refine Fr.call ?_ (fw_X11_people_41  _) (by simp))
  refine lt_ (P := fun z => Fr [1, 2, 25, 29, 3, 32, 4, 5] μ z) ((e_X9_clear  μ8)) (fun μ9 : Mm => μ9) (fun μ9 eμ9 => ?_)
  have fμ9 : Fr [1, 2, 25, 29, 3, 32, 4, 5] μ μ9 := by
    rw [eμ9]
    exact Fr.call fμ8 (fr_X9_clear μ8) (by simp)
  exact fμ9
set_option maxRecDepth 20000 in
set_option maxHeartbeats 400000 in
theorem fr_X11_sacks (p0 : Int32) (p1 : Int32) (μ : Mm) : Fr [29, 30, 5] μ (e_X11_sacks p0 p1 μ) := by
  unfold e_X11_sacks
  refine lt_ (P := fun z => Fr [29, 30, 5] μ z) ((e_X3_note 1 μ)) (fun μ2 : Mm => (let μ4 : Mm := (e_X1_burden 1 p0 p1 μ2); (let μ5 : Mm := (e_X11_committed (v_X1_burden 1 p0 p1 μ2) μ4); μ5))) (fun μ2 eμ2 => ?_)
  have fμ2 : Fr [29, 30, 5] μ μ2 := by
    rw [eμ2]
    exact Fr.call Fr.rfl (fr_X3_note 1 μ) (by simp)
  refine lt_ (P := fun z => Fr [29, 30, 5] μ z) ((e_X1_burden 1 p0 p1 μ2)) (fun μ4 : Mm => (let μ5 : Mm := (e_X11_committed (v_X1_burden 1 p0 p1 μ2) μ4); μ5)) (fun μ4 eμ4 => ?_)
  have fμ4 : Fr [29, 30, 5] μ μ4 := by
    rw [eμ4]
    exact Fr.call fμ2 (fr_X1_burden 1 p0 p1 μ2) (by simp)
  refine lt_ (P := fun z => Fr [29, 30, 5] μ z) ((e_X11_committed (v_X1_burden 1 p0 p1 μ2) μ4)) (fun μ5 : Mm => μ5) (fun μ5 eμ5 => ?_)
  have fμ5 : Fr [29, 30, 5] μ μ5 := by
    rw [eμ5]
    exact Fr.call fμ4 (fr_X11_committed (v_X1_burden 1 p0 p1 μ2) μ4) (by simp)
  exact fμ5
set_option maxRecDepth 20000 in
set_option maxHeartbeats 400000 in
theorem fr_X11_steps (p0 : Int32) (μ : Mm) : Fr [1, 29, 30] μ (e_X11_steps p0 μ) := by
  unfold e_X11_steps
  refine lt_ (P := fun z => Fr [1, 29, 30] μ z) ((e_X3_note 1 μ)) (fun μ2 : Mm => (let μ3 : Mm := (e_X1_stepOffOrOn 1 p0 μ2); (let μ4 : Mm := (e_X11_committed (v_X1_stepOffOrOn 1 p0 μ2) μ3); μ4))) (fun μ2 eμ2 => ?_)
  have fμ2 : Fr [1, 29, 30] μ μ2 := by
    rw [eμ2]
    exact Fr.call Fr.rfl (fr_X3_note 1 μ) (by simp)
  refine lt_ (P := fun z => Fr [1, 29, 30] μ z) ((e_X1_stepOffOrOn 1 p0 μ2)) (fun μ3 : Mm => (let μ4 : Mm := (e_X11_committed (v_X1_stepOffOrOn 1 p0 μ2) μ3); μ4)) (fun μ3 eμ3 => ?_)
  have fμ3 : Fr [1, 29, 30] μ μ3 := by
    rw [eμ3]
    exact Fr.call fμ2 (fr_X1_stepOffOrOn 1 p0 μ2) (by simp)
  refine lt_ (P := fun z => Fr [1, 29, 30] μ z) ((e_X11_committed (v_X1_stepOffOrOn 1 p0 μ2) μ3)) (fun μ4 : Mm => μ4) (fun μ4 eμ4 => ?_)
  have fμ4 : Fr [1, 29, 30] μ μ4 := by
    rw [eμ4]
    exact Fr.call fμ3 (fr_X11_committed (v_X1_stepOffOrOn 1 p0 μ2) μ3) (by simp)
  exact fμ4
set_option maxRecDepth 20000 in
set_option maxHeartbeats 400000 in
theorem fr_X11_tellFewest (p0 : Int32) (μ : Mm) : Fr [27, 28, 33] μ (e_X11_tellFewest p0 μ) := by
  unfold e_X11_tellFewest
  refine lt_ (P := fun z => Fr [27, 28, 33] μ z) ((e_X8_search p0 μ)) (fun μ2 : Mm => (if (v_X8_search p0 μ) = 0 then μ2 else (let μ4 : Mm := (e_X10_begin  μ2); (let μ6 : Mm := (e_X10_add (Int32.toInt64 (μ4.1 33 3)) μ4); μ6)))) (fun μ2 eμ2 => ?_)
  have fμ2 : Fr [27, 28, 33] μ μ2 := by
    rw [eμ2]
    exact Fr.call Fr.rfl (fr_X8_search p0 μ) (by simp)
  refine Fr.ite ?_ ?_
  · exact fμ2
  · refine lt_ (P := fun z => Fr [27, 28, 33] μ z) ((e_X10_begin  μ2)) (fun μ4 : Mm => (let μ6 : Mm := (e_X10_add (Int32.toInt64 (μ4.1 33 3)) μ4); μ6)) (fun μ4 eμ4 => ?_)
    have fμ4 : Fr [27, 28, 33] μ μ4 := by
      rw [eμ4]
      exact Fr.call fμ2 (fr_X10_begin μ2) (by simp)
    refine lt_ (P := fun z => Fr [27, 28, 33] μ z) ((e_X10_add (Int32.toInt64 (μ4.1 33 3)) μ4)) (fun μ6 : Mm => μ6) (fun μ6 eμ6 => ?_)
    have fμ6 : Fr [27, 28, 33] μ μ6 := by
      rw [eμ6]
      exact Fr.call fμ4 (fr_X10_add (Int32.toInt64 (μ4.1 33 3)) μ4) (by simp)
    exact fμ6
set_option maxRecDepth 20000 in
set_option maxHeartbeats 400000 in
theorem fr_X11_tips  (μ : Mm) : Fr [27, 28] μ (e_X11_tips  μ) := by
  unfold e_X11_tips
  refine lt_ (P := fun z => Fr [27, 28] μ z) ((e_X10_begin  μ)) (fun μ1 : Mm => (let μ4 : Mm := (e_X10_add (Int32.toInt64 (v_X1_momentOnSide 1 1 μ1)) μ1); (let μ7 : Mm := (e_X10_add (Int32.toInt64 (v_X1_momentOnSide 1 (-1) μ4)) μ4); (let μ11 : Mm := (e_X10_add (Int32.toInt64 (v_X1_loadOf 1 (v_X1_standingOn 1 0 μ7) μ7)) μ7); μ11)))) (fun μ1 eμ1 => ?_)
  have fμ1 : Fr [27, 28] μ μ1 := by
    rw [eμ1]
    exact Fr.call Fr.rfl (fr_X10_begin μ) (by simp)
  refine lt_ (P := fun z => Fr [27, 28] μ z) ((e_X10_add (Int32.toInt64 (v_X1_momentOnSide 1 1 μ1)) μ1)) (fun μ4 : Mm => (let μ7 : Mm := (e_X10_add (Int32.toInt64 (v_X1_momentOnSide 1 (-1) μ4)) μ4); (let μ11 : Mm := (e_X10_add (Int32.toInt64 (v_X1_loadOf 1 (v_X1_standingOn 1 0 μ7) μ7)) μ7); μ11))) (fun μ4 eμ4 => ?_)
  have fμ4 : Fr [27, 28] μ μ4 := by
    rw [eμ4]
    exact Fr.call fμ1 (fr_X10_add (Int32.toInt64 (v_X1_momentOnSide 1 1 μ1)) μ1) (by simp)
  refine lt_ (P := fun z => Fr [27, 28] μ z) ((e_X10_add (Int32.toInt64 (v_X1_momentOnSide 1 (-1) μ4)) μ4)) (fun μ7 : Mm => (let μ11 : Mm := (e_X10_add (Int32.toInt64 (v_X1_loadOf 1 (v_X1_standingOn 1 0 μ7) μ7)) μ7); μ11)) (fun μ7 eμ7 => ?_)
  have fμ7 : Fr [27, 28] μ μ7 := by
    rw [eμ7]
    exact Fr.call fμ4 (fr_X10_add (Int32.toInt64 (v_X1_momentOnSide 1 (-1) μ4)) μ4) (by simp)
  refine lt_ (P := fun z => Fr [27, 28] μ z) ((e_X10_add (Int32.toInt64 (v_X1_loadOf 1 (v_X1_standingOn 1 0 μ7) μ7)) μ7)) (fun μ11 : Mm => μ11) (fun μ11 eμ11 => ?_)
  have fμ11 : Fr [27, 28] μ μ11 := by
    rw [eμ11]
    exact Fr.call fμ7 (fr_X10_add (Int32.toInt64 (v_X1_loadOf 1 (v_X1_standingOn 1 0 μ7) μ7)) μ7) (by simp)
  exact fμ11
set_option maxRecDepth 20000 in
set_option maxHeartbeats 400000 in
theorem fr_X11_turnsTo (p0 : Int32) (p1 : Int32) (μ : Mm) : Fr [29, 3, 30] μ (e_X11_turnsTo p0 p1 μ) := by
  unfold e_X11_turnsTo
  refine lt_ (P := fun z => Fr [29, 3, 30] μ z) ((e_X3_note 1 μ)) (fun μ2 : Mm => (let μ4 : Mm := (e_X1_turn 1 p0 p1 μ2); (let μ5 : Mm := (e_X11_committed (v_X1_turn 1 p0 p1 μ2) μ4); μ5))) (fun μ2 eμ2 => ?_)
  have fμ2 : Fr [29, 3, 30] μ μ2 := by
    rw [eμ2]
    exact Fr.call Fr.rfl (fr_X3_note 1 μ) (by simp)
  refine lt_ (P := fun z => Fr [29, 3, 30] μ z) ((e_X1_turn 1 p0 p1 μ2)) (fun μ4 : Mm => (let μ5 : Mm := (e_X11_committed (v_X1_turn 1 p0 p1 μ2) μ4); μ5)) (fun μ4 eμ4 => ?_)
  have fμ4 : Fr [29, 3, 30] μ μ4 := by
    rw [eμ4]
    exact Fr.call fμ2 (fr_X1_turn 1 p0 p1 μ2) (by simp)
  refine lt_ (P := fun z => Fr [29, 3, 30] μ z) ((e_X11_committed (v_X1_turn 1 p0 p1 μ2) μ4)) (fun μ5 : Mm => μ5) (fun μ5 eμ5 => ?_)
  have fμ5 : Fr [29, 3, 30] μ μ5 := by
    rw [eμ5]
    exact Fr.call fμ4 (fr_X11_committed (v_X1_turn 1 p0 p1 μ2) μ4) (by simp)
  exact fμ5
set_option maxRecDepth 20000 in
set_option maxHeartbeats 400000 in
theorem fw_X11_walks_77  (s : Int32 × Int32 × Int32 × Int32 × Mm) : Fr [27, 28] (s.2.2.2.2) ((whl (fun s : Int32 × Int32 × Int32 × Int32 × Mm => bd_X11_walks_77  s.1 s.2.1 s.2.2.1 s.2.2.2.1 s.2.2.2.2) (fun s : Int32 × Int32 × Int32 × Int32 × Mm => (0, s.2.2.2.2)) FU s).2) := by
  have key : ∀ s : Int32 × Int32 × Int32 × Int32 × Mm, FrS [27, 28] (s.2.2.2.2) (fun s : Int32 × Int32 × Int32 × Int32 × Mm => s.2.2.2.2) (fun r : Int32 × Mm => r.2) ((fun s : Int32 × Int32 × Int32 × Int32 × Mm => bd_X11_walks_77  s.1 s.2.1 s.2.2.1 s.2.2.2.1 s.2.2.2.2) s) := by
    rintro ⟨x2, x3, x4, x5, μ⟩
    show FrS [27, 28] μ (fun s : Int32 × Int32 × Int32 × Int32 × Mm => s.2.2.2.2) (fun r : Int32 × Mm => r.2) (bd_X11_walks_77  x2 x3 x4 x5 μ)
    unfold bd_X11_walks_77
    refine FrS.ite ?_ ?_
    · exact FrS.inr Fr.rfl
    · refine lt_ (P := fun z => FrS [27, 28] μ (fun s : Int32 × Int32 × Int32 × Int32 × Mm => s.2.2.2.2) (fun r : Int32 × Mm => r.2) z) ((e_X10_add (Int32.toInt64 (v_X7_farthestOf x5 x3 x4 μ)) μ)) (fun μ4 : Mm => .inl (x2, (x3 - (v_X7_farthestOf x5 x3 x4 μ)), (x4 - ((v_X7_farthestOf x5 x3 x4 μ) * (v_X1_load 1 x5 μ4))), (x5 + 1), μ4)) (fun μ4 eμ4 => ?_)
      have fμ4 : Fr [27, 28] μ μ4 := by
        rw [eμ4]
        exact Fr.call Fr.rfl (fr_X10_add (Int32.toInt64 (v_X7_farthestOf x5 x3 x4 μ)) μ) (by simp)
      exact FrS.inl fμ4
  exact Fr_whlK (S := [27, 28]) (f := (fun s : Int32 × Int32 × Int32 × Int32 × Mm => bd_X11_walks_77  s.1 s.2.1 s.2.2.1 s.2.2.2.1 s.2.2.2.2)) (dd := (fun s : Int32 × Int32 × Int32 × Int32 × Mm => (0, s.2.2.2.2))) (fun s : Int32 × Int32 × Int32 × Int32 × Mm => s.2.2.2.2) (fun r : Int32 × Mm => r.2) (fun _ => rfl) key FU s
set_option maxRecDepth 20000 in
set_option maxHeartbeats 400000 in
theorem fr_X11_walks (p0 : Int32) (μ : Mm) : Fr [27, 28, 36, 37] μ (e_X11_walks p0 μ) := by
  unfold e_X11_walks
  refine Fr.ite ?_ ?_
  · refine lt_ (P := fun z => Fr [27, 28, 36, 37] μ z) ((e_X7_setOut 1 p0 μ)) (fun μ3 : Mm => (if (v_X7_fewest (1 - (v_X1_moment 1 μ3)) μ3) = (-2) then μ3 else (let μ7 : Mm := (e_X10_begin  μ3); (let r10 : Int32 × Mm := whl (fun s : Int32 × Int32 × Int32 × Int32 × Mm => bd_X11_walks_77  s.1 s.2.1 s.2.2.1 s.2.2.2.1 s.2.2.2.2) (fun s : Int32 × Int32 × Int32 × Int32 × Mm => (0, s.2.2.2.2)) FU ((v_X7_fewest (1 - (v_X1_moment 1 μ3)) μ3), (v_X7_fewest (1 - (v_X1_moment 1 μ3)) μ3), (1 - (v_X1_moment 1 μ7)), 0, μ7); (r10.2))))) (fun μ3 eμ3 => ?_)
    have fμ3 : Fr [27, 28, 36, 37] μ μ3 := by
      rw [eμ3]
      exact Fr.call Fr.rfl (fr_X7_setOut 1 p0 μ) (by simp)
    refine Fr.ite ?_ ?_
    · exact fμ3
    · refine lt_ (P := fun z => Fr [27, 28, 36, 37] μ z) ((e_X10_begin  μ3)) (fun μ7 : Mm => (let r10 : Int32 × Mm := whl (fun s : Int32 × Int32 × Int32 × Int32 × Mm => bd_X11_walks_77  s.1 s.2.1 s.2.2.1 s.2.2.2.1 s.2.2.2.2) (fun s : Int32 × Int32 × Int32 × Int32 × Mm => (0, s.2.2.2.2)) FU ((v_X7_fewest (1 - (v_X1_moment 1 μ3)) μ3), (v_X7_fewest (1 - (v_X1_moment 1 μ3)) μ3), (1 - (v_X1_moment 1 μ7)), 0, μ7); (r10.2))) (fun μ7 eμ7 => ?_)
      have fμ7 : Fr [27, 28, 36, 37] μ μ7 := by
        rw [eμ7]
        exact Fr.call fμ3 (fr_X10_begin μ3) (by simp)
      refine lt_ (P := fun z => Fr [27, 28, 36, 37] μ z) (whl (fun s : Int32 × Int32 × Int32 × Int32 × Mm => bd_X11_walks_77  s.1 s.2.1 s.2.2.1 s.2.2.2.1 s.2.2.2.2) (fun s : Int32 × Int32 × Int32 × Int32 × Mm => (0, s.2.2.2.2)) FU ((v_X7_fewest (1 - (v_X1_moment 1 μ3)) μ3), (v_X7_fewest (1 - (v_X1_moment 1 μ3)) μ3), (1 - (v_X1_moment 1 μ7)), 0, μ7)) (fun r10 : Int32 × Mm => (r10.2)) (fun r10 er10 => ?_)
      have fr10 : Fr [27, 28, 36, 37] μ (r10.2) := by
        rw [er10]
        exact Fr.call fμ7 (fw_X11_walks_77  _) (by simp)
      exact fr10
  · exact Fr.rfl
set_option maxRecDepth 20000 in
set_option maxHeartbeats 400000 in
theorem fw_X11_waysDecidedBy_22  (s : Int32 × Int32 × Int32 × Int32 × Int32 × Mm) : Fr [34] (s.2.2.2.2.2) ((whl (fun s : Int32 × Int32 × Int32 × Int32 × Int32 × Mm => bd_X11_waysDecidedBy_22  s.1 s.2.1 s.2.2.1 s.2.2.2.1 s.2.2.2.2.1 s.2.2.2.2.2) (fun s : Int32 × Int32 × Int32 × Int32 × Int32 × Mm => (0, 0, 0, s.2.2.2.2.2)) FU s).2.2.2) := by
  have key : ∀ s : Int32 × Int32 × Int32 × Int32 × Int32 × Mm, FrS [34] (s.2.2.2.2.2) (fun s : Int32 × Int32 × Int32 × Int32 × Int32 × Mm => s.2.2.2.2.2) (fun r : Int32 × Int32 × Int32 × Mm => r.2.2.2) ((fun s : Int32 × Int32 × Int32 × Int32 × Int32 × Mm => bd_X11_waysDecidedBy_22  s.1 s.2.1 s.2.2.1 s.2.2.2.1 s.2.2.2.2.1 s.2.2.2.2.2) s) := by
    rintro ⟨x1, x2, x3, x4, x5, μ⟩
    show FrS [34] μ (fun s : Int32 × Int32 × Int32 × Int32 × Int32 × Mm => s.2.2.2.2.2) (fun r : Int32 × Int32 × Int32 × Mm => r.2.2.2) (bd_X11_waysDecidedBy_22  x1 x2 x3 x4 x5 μ)
    unfold bd_X11_waysDecidedBy_22
    refine FrS.ite ?_ ?_
    · exact FrS.inr Fr.rfl
    · refine lt_ (P := fun z => FrS [34] μ (fun s : Int32 × Int32 × Int32 × Int32 × Int32 × Mm => s.2.2.2.2.2) (fun r : Int32 × Int32 × Int32 × Mm => r.2.2.2) z) ((upI μ 34 (Int32.toNatClampNeg x5) (2 * ((v_X1_load 1 x5 μ) * (if 0 ≤ (μ.1 3 (Int32.toNatClampNeg x5)) then (μ.1 3 (Int32.toNatClampNeg x5)) else 0 - (μ.1 3 (Int32.toNatClampNeg x5))))))) (fun μ5 : Mm => .inl (x1, x2, (if x5 = x1 then x3 else (if (v_X1_isOff 1 x5 μ5) = 0 then (x3 - ((v_X1_load 1 x5 μ) * (if 0 ≤ (μ.1 3 (Int32.toNatClampNeg x5)) then (μ.1 3 (Int32.toNatClampNeg x5)) else 0 - (μ.1 3 (Int32.toNatClampNeg x5))))) else x3 : Int32) : Int32), (if x5 = x1 then ((v_X1_load 1 x5 μ) * (if 0 ≤ (μ.1 3 (Int32.toNatClampNeg x5)) then (μ.1 3 (Int32.toNatClampNeg x5)) else 0 - (μ.1 3 (Int32.toNatClampNeg x5)))) else x4 : Int32), (x5 + 1), μ5)) (fun μ5 eμ5 => ?_)
      have fμ5 : Fr [34] μ μ5 := by
        rw [eμ5]
        exact Fr.up Fr.rfl (by simp)
      exact FrS.inl fμ5
  exact Fr_whlK (S := [34]) (f := (fun s : Int32 × Int32 × Int32 × Int32 × Int32 × Mm => bd_X11_waysDecidedBy_22  s.1 s.2.1 s.2.2.1 s.2.2.2.1 s.2.2.2.2.1 s.2.2.2.2.2)) (dd := (fun s : Int32 × Int32 × Int32 × Int32 × Int32 × Mm => (0, 0, 0, s.2.2.2.2.2))) (fun s : Int32 × Int32 × Int32 × Int32 × Int32 × Mm => s.2.2.2.2.2) (fun r : Int32 × Int32 × Int32 × Mm => r.2.2.2) (fun _ => rfl) key FU s
set_option maxRecDepth 20000 in
set_option maxHeartbeats 400000 in
theorem fr_X11_waysDecidedBy (p0 : Int32) (μ : Mm) : Fr [33, 34] μ (e_X11_waysDecidedBy p0 μ) := by
  unfold e_X11_waysDecidedBy
  refine lt_ (P := fun z => Fr [33, 34] μ z) (whl (fun s : Int32 × Int32 × Int32 × Int32 × Int32 × Mm => bd_X11_waysDecidedBy_22  s.1 s.2.1 s.2.2.1 s.2.2.2.1 s.2.2.2.2.1 s.2.2.2.2.2) (fun s : Int32 × Int32 × Int32 × Int32 × Int32 × Mm => (0, 0, 0, s.2.2.2.2.2)) FU (p0, ((v_X1_present 1 μ) &&& ((1 <<< (p0 &&& 31)) ^^^ (-1))), 0, 0, 0, μ)) (fun r2 : Int32 × Int32 × Int32 × Mm => (let μ3 : Mm := (e_X8_start (r2.1) (r2.2.1) (r2.2.2.2)); μ3)) (fun r2 er2 => ?_)
  have fr2 : Fr [33, 34] μ (r2.2.2.2) := by
    rw [er2]
    exact Fr.call Fr.rfl (fw_X11_waysDecidedBy_22  _) (by simp)
  refine lt_ (P := fun z => Fr [33, 34] μ z) ((e_X8_start (r2.1) (r2.2.1) (r2.2.2.2))) (fun μ3 : Mm => μ3) (fun μ3 eμ3 => ?_)
  have fμ3 : Fr [33, 34] μ μ3 := by
    rw [eμ3]
    exact Fr.call fr2 (fr_X8_start (r2.1) (r2.2.1) (r2.2.2.2)) (by simp)
  exact fμ3
set_option maxRecDepth 20000 in
set_option maxHeartbeats 400000 in
theorem fr_X12_asks  (μ : Mm) : Fr [49, 50] μ (e_X12_asks  μ) := by
  unfold e_X12_asks
  refine lt_ (P := fun z => Fr [49, 50] μ z) ((upI μ 49 0 0)) (fun μ1 : Mm => (if (v_X12_fitting  μ1) = 0 then μ1 else (let r5 : Int32 × Int32 := whl (fun s : Int32 × Int32 × Int32 × Int32 => bd_X12_asks_26  μ1 s.1 s.2.1 s.2.2.1 s.2.2.2) (fun _ : Int32 × Int32 × Int32 × Int32 => (0, 0)) FU ((v_X12_fitting  μ1), (-1), 1000000, 0); (let μ6 : Mm := (upI μ1 49 1 0); (let μ8 : Mm := (e_X12_enters (Int32.toInt64 (r5.2)) μ6); μ8))))) (fun μ1 eμ1 => ?_)
  have fμ1 : Fr [49, 50] μ μ1 := by
    rw [eμ1]
    exact Fr.up Fr.rfl (by simp)
  refine Fr.ite ?_ ?_
  · exact fμ1
  · refine lt_ (P := fun z => Fr [49, 50] μ z) (whl (fun s : Int32 × Int32 × Int32 × Int32 => bd_X12_asks_26  μ1 s.1 s.2.1 s.2.2.1 s.2.2.2) (fun _ : Int32 × Int32 × Int32 × Int32 => (0, 0)) FU ((v_X12_fitting  μ1), (-1), 1000000, 0)) (fun r5 : Int32 × Int32 => (let μ6 : Mm := (upI μ1 49 1 0); (let μ8 : Mm := (e_X12_enters (Int32.toInt64 (r5.2)) μ6); μ8))) (fun r5 er5 => ?_)
    refine lt_ (P := fun z => Fr [49, 50] μ z) ((upI μ1 49 1 0)) (fun μ6 : Mm => (let μ8 : Mm := (e_X12_enters (Int32.toInt64 (r5.2)) μ6); μ8)) (fun μ6 eμ6 => ?_)
    have fμ6 : Fr [49, 50] μ μ6 := by
      rw [eμ6]
      exact Fr.up fμ1 (by simp)
    refine lt_ (P := fun z => Fr [49, 50] μ z) ((e_X12_enters (Int32.toInt64 (r5.2)) μ6)) (fun μ8 : Mm => μ8) (fun μ8 eμ8 => ?_)
    have fμ8 : Fr [49, 50] μ μ8 := by
      rw [eμ8]
      exact Fr.call fμ6 (fr_X12_enters (Int32.toInt64 (r5.2)) μ6) (by simp)
    exact fμ8
set_option maxRecDepth 20000 in
set_option maxHeartbeats 400000 in
theorem fw_X12_backs_26  (s : Int32 × Int32 × Int32 × Mm) : Fr [49, 50] (s.2.2.2) ((whl (fun s : Int32 × Int32 × Int32 × Mm => bd_X12_backs_26  s.1 s.2.1 s.2.2.1 s.2.2.2) (fun s : Int32 × Int32 × Int32 × Mm => (0, 0, s.2.2.2)) FU s).2.2) := by
  have key : ∀ s : Int32 × Int32 × Int32 × Mm, FrS [49, 50] (s.2.2.2) (fun s : Int32 × Int32 × Int32 × Mm => s.2.2.2) (fun r : Int32 × Int32 × Mm => r.2.2) ((fun s : Int32 × Int32 × Int32 × Mm => bd_X12_backs_26  s.1 s.2.1 s.2.2.1 s.2.2.2) s) := by
    rintro ⟨x1, x2, x3, μ⟩
    show FrS [49, 50] μ (fun s : Int32 × Int32 × Int32 × Mm => s.2.2.2) (fun r : Int32 × Int32 × Mm => r.2.2) (bd_X12_backs_26  x1 x2 x3 μ)
    unfold bd_X12_backs_26
    refine FrS.ite ?_ ?_
    · exact FrS.inr Fr.rfl
    · refine lt_ (P := fun z => FrS [49, 50] μ (fun s : Int32 × Int32 × Int32 × Mm => s.2.2.2) (fun r : Int32 × Int32 × Mm => r.2.2) z) ((if (v_X12_areBacks x2 x3 μ) = 0 then μ else (if x1 = 0 then ((e_X12_enters (Int32.toInt64 x3) ((e_X12_enters (Int32.toInt64 x2) μ)))) else μ : Mm) : Mm)) (fun μ9 : Mm => .inl ((x1 + (v_X12_flag (v_X12_areBacks x2 x3 μ9))), x2, (x3 + 1), μ9)) (fun μ9 eμ9 => ?_)
      have fμ9 : Fr [49, 50] μ μ9 := by
        rw [eμ9]
        repeat' (first | with_reducible assumption | with_reducible exact Fr.rfl | with_reducible refine Fr.ite ?_ ?_ | with_reducible refine Fr.up ?_ (by simp) | with_reducible refine Fr.upJ ?_ (by simp) | with_reducible refine Fr.call ?_ (fr_X12_enters _ _) (by simp))
      exact FrS.inl fμ9
  exact Fr_whlK (S := [49, 50]) (f := (fun s : Int32 × Int32 × Int32 × Mm => bd_X12_backs_26  s.1 s.2.1 s.2.2.1 s.2.2.2)) (dd := (fun s : Int32 × Int32 × Int32 × Mm => (0, 0, s.2.2.2))) (fun s : Int32 × Int32 × Int32 × Mm => s.2.2.2) (fun r : Int32 × Int32 × Mm => r.2.2) (fun _ => rfl) key FU s
set_option maxRecDepth 20000 in
set_option maxHeartbeats 400000 in
theorem fw_X12_backs_14  (s : Int32 × Int32 × Mm) : Fr [49, 50] (s.2.2) ((whl (fun s : Int32 × Int32 × Mm => bd_X12_backs_14  s.1 s.2.1 s.2.2) (fun s : Int32 × Int32 × Mm => (0, s.2.2)) FU s).2) := by
  have key : ∀ s : Int32 × Int32 × Mm, FrS [49, 50] (s.2.2) (fun s : Int32 × Int32 × Mm => s.2.2) (fun r : Int32 × Mm => r.2) ((fun s : Int32 × Int32 × Mm => bd_X12_backs_14  s.1 s.2.1 s.2.2) s) := by
    rintro ⟨x1, x2, μ⟩
    show FrS [49, 50] μ (fun s : Int32 × Int32 × Mm => s.2.2) (fun r : Int32 × Mm => r.2) (bd_X12_backs_14  x1 x2 μ)
    unfold bd_X12_backs_14
    refine FrS.ite ?_ ?_
    · exact FrS.inr Fr.rfl
    · refine lt_ (P := fun z => FrS [49, 50] μ (fun s : Int32 × Int32 × Mm => s.2.2) (fun r : Int32 × Mm => r.2) z) (whl (fun s : Int32 × Int32 × Int32 × Mm => bd_X12_backs_26  s.1 s.2.1 s.2.2.1 s.2.2.2) (fun s : Int32 × Int32 × Int32 × Mm => (0, 0, s.2.2.2)) FU (x1, x2, (x2 + 1), μ)) (fun r3 : Int32 × Int32 × Mm => .inl ((r3.1), ((r3.2.1) + 1), (r3.2.2))) (fun r3 er3 => ?_)
      have fr3 : Fr [49, 50] μ (r3.2.2) := by
        rw [er3]
        exact Fr.call Fr.rfl (fw_X12_backs_26  _) (by simp)
      exact FrS.inl fr3
  exact Fr_whlK (S := [49, 50]) (f := (fun s : Int32 × Int32 × Mm => bd_X12_backs_14  s.1 s.2.1 s.2.2)) (dd := (fun s : Int32 × Int32 × Mm => (0, s.2.2))) (fun s : Int32 × Int32 × Mm => s.2.2) (fun r : Int32 × Mm => r.2) (fun _ => rfl) key FU s
set_option maxRecDepth 20000 in
set_option maxHeartbeats 400000 in
theorem fr_X12_backs  (μ : Mm) : Fr [49, 50] μ (e_X12_backs  μ) := by
  unfold e_X12_backs
  refine lt_ (P := fun z => Fr [49, 50] μ z) ((upI μ 49 0 0)) (fun μ1 : Mm => (let μ2 : Mm := (upI μ1 49 1 0); (let r4 : Int32 × Mm := whl (fun s : Int32 × Int32 × Mm => bd_X12_backs_14  s.1 s.2.1 s.2.2) (fun s : Int32 × Int32 × Mm => (0, s.2.2)) FU (0, 0, μ2); (r4.2)))) (fun μ1 eμ1 => ?_)
  have fμ1 : Fr [49, 50] μ μ1 := by
    rw [eμ1]
    exact Fr.up Fr.rfl (by simp)
  refine lt_ (P := fun z => Fr [49, 50] μ z) ((upI μ1 49 1 0)) (fun μ2 : Mm => (let r4 : Int32 × Mm := whl (fun s : Int32 × Int32 × Mm => bd_X12_backs_14  s.1 s.2.1 s.2.2) (fun s : Int32 × Int32 × Mm => (0, s.2.2)) FU (0, 0, μ2); (r4.2))) (fun μ2 eμ2 => ?_)
  have fμ2 : Fr [49, 50] μ μ2 := by
    rw [eμ2]
    exact Fr.up fμ1 (by simp)
  refine lt_ (P := fun z => Fr [49, 50] μ z) (whl (fun s : Int32 × Int32 × Mm => bd_X12_backs_14  s.1 s.2.1 s.2.2) (fun s : Int32 × Int32 × Mm => (0, s.2.2)) FU (0, 0, μ2)) (fun r4 : Int32 × Mm => (r4.2)) (fun r4 er4 => ?_)
  have fr4 : Fr [49, 50] μ (r4.2) := by
    rw [er4]
    exact Fr.call fμ2 (fw_X12_backs_14  _) (by simp)
  exact fr4
set_option maxRecDepth 20000 in
set_option maxHeartbeats 400000 in
theorem fr_X12_canvass  (μ : Mm) : Fr [49, 50] μ (e_X12_canvass  μ) := by
  unfold e_X12_canvass
  refine lt_ (P := fun z => Fr [49, 50] μ z) ((upI μ 49 0 0)) (fun μ1 : Mm => (let r3 : Int32 := whl (fun s : Int32 × Int32 => bd_X12_canvass_9  μ1 s.1 s.2) (fun _ : Int32 × Int32 => 0) FU ((-1), 0); (let μ5 : Mm := (e_X12_entersFewest r3 μ1); μ5))) (fun μ1 eμ1 => ?_)
  have fμ1 : Fr [49, 50] μ μ1 := by
    rw [eμ1]
    exact Fr.up Fr.rfl (by simp)
  refine lt_ (P := fun z => Fr [49, 50] μ z) (whl (fun s : Int32 × Int32 => bd_X12_canvass_9  μ1 s.1 s.2) (fun _ : Int32 × Int32 => 0) FU ((-1), 0)) (fun r3 : Int32 => (let μ5 : Mm := (e_X12_entersFewest r3 μ1); μ5)) (fun r3 er3 => ?_)
  refine lt_ (P := fun z => Fr [49, 50] μ z) ((e_X12_entersFewest r3 μ1)) (fun μ5 : Mm => μ5) (fun μ5 eμ5 => ?_)
  have fμ5 : Fr [49, 50] μ μ5 := by
    rw [eμ5]
    exact Fr.call fμ1 (fr_X12_entersFewest r3 μ1) (by simp)
  exact fμ5
set_option maxRecDepth 20000 in
set_option maxHeartbeats 400000 in
theorem fr_X12_crowd  (μ : Mm) : Fr [49, 50] μ (e_X12_crowd  μ) := by
  unfold e_X12_crowd
  refine lt_ (P := fun z => Fr [49, 50] μ z) ((upI μ 49 0 0)) (fun μ1 : Mm => (let r3 : Int32 × Int32 := whl (fun s : Int32 × Int32 × Int32 => bd_X12_crowd_12  μ1 s.1 s.2.1 s.2.2) (fun _ : Int32 × Int32 × Int32 => (0, 0)) FU (0, 0, (-9)); (let μ4 : Mm := (upI μ1 49 1 0); (let μ10 : Mm := (if (r3.1) = 0 then μ4 else ((e_X12_enters (Int32.toInt64 (r3.1)) ((e_X12_enters (Int32.toInt64 (100 + (r3.2))) μ4)))) : Mm); μ10)))) (fun μ1 eμ1 => ?_)
  have fμ1 : Fr [49, 50] μ μ1 := by
    rw [eμ1]
    exact Fr.up Fr.rfl (by simp)
  refine lt_ (P := fun z => Fr [49, 50] μ z) (whl (fun s : Int32 × Int32 × Int32 => bd_X12_crowd_12  μ1 s.1 s.2.1 s.2.2) (fun _ : Int32 × Int32 × Int32 => (0, 0)) FU (0, 0, (-9))) (fun r3 : Int32 × Int32 => (let μ4 : Mm := (upI μ1 49 1 0); (let μ10 : Mm := (if (r3.1) = 0 then μ4 else ((e_X12_enters (Int32.toInt64 (r3.1)) ((e_X12_enters (Int32.toInt64 (100 + (r3.2))) μ4)))) : Mm); μ10))) (fun r3 er3 => ?_)
  refine lt_ (P := fun z => Fr [49, 50] μ z) ((upI μ1 49 1 0)) (fun μ4 : Mm => (let μ10 : Mm := (if (r3.1) = 0 then μ4 else ((e_X12_enters (Int32.toInt64 (r3.1)) ((e_X12_enters (Int32.toInt64 (100 + (r3.2))) μ4)))) : Mm); μ10)) (fun μ4 eμ4 => ?_)
  have fμ4 : Fr [49, 50] μ μ4 := by
    rw [eμ4]
    exact Fr.up fμ1 (by simp)
  refine lt_ (P := fun z => Fr [49, 50] μ z) ((if (r3.1) = 0 then μ4 else ((e_X12_enters (Int32.toInt64 (r3.1)) ((e_X12_enters (Int32.toInt64 (100 + (r3.2))) μ4)))) : Mm)) (fun μ10 : Mm => μ10) (fun μ10 eμ10 => ?_)
  have fμ10 : Fr [49, 50] μ μ10 := by
    rw [eμ10]
    repeat' (first | with_reducible assumption | with_reducible exact Fr.rfl | with_reducible refine Fr.ite ?_ ?_ | with_reducible refine Fr.up ?_ (by simp) | with_reducible refine Fr.upJ ?_ (by simp) | with_reducible refine Fr.call ?_ (fr_X12_enters _ _) (by simp))
  exact fμ10
set_option maxRecDepth 20000 in
set_option maxHeartbeats 400000 in
theorem fr_X12_fits  (μ : Mm) : Fr [49, 50] μ (e_X12_fits  μ) := by
  unfold e_X12_fits
  refine lt_ (P := fun z => Fr [49, 50] μ z) ((upI μ 49 0 0)) (fun μ1 : Mm => (let μ3 : Mm := (upI μ1 49 1 0); (let μ5 : Mm := (e_X12_enters (Int32.toInt64 (v_J6_bitCount_0f7a4 (v_X12_fitting  μ1))) μ3); μ5))) (fun μ1 eμ1 => ?_)
  have fμ1 : Fr [49, 50] μ μ1 := by
    rw [eμ1]
    exact Fr.up Fr.rfl (by simp)
  refine lt_ (P := fun z => Fr [49, 50] μ z) ((upI μ1 49 1 0)) (fun μ3 : Mm => (let μ5 : Mm := (e_X12_enters (Int32.toInt64 (v_J6_bitCount_0f7a4 (v_X12_fitting  μ1))) μ3); μ5)) (fun μ3 eμ3 => ?_)
  have fμ3 : Fr [49, 50] μ μ3 := by
    rw [eμ3]
    exact Fr.up fμ1 (by simp)
  refine lt_ (P := fun z => Fr [49, 50] μ z) ((e_X12_enters (Int32.toInt64 (v_J6_bitCount_0f7a4 (v_X12_fitting  μ1))) μ3)) (fun μ5 : Mm => μ5) (fun μ5 eμ5 => ?_)
  have fμ5 : Fr [49, 50] μ μ5 := by
    rw [eμ5]
    exact Fr.call fμ3 (fr_X12_enters (Int32.toInt64 (v_J6_bitCount_0f7a4 (v_X12_fitting  μ1))) μ3) (by simp)
  exact fμ5
set_option maxRecDepth 20000 in
set_option maxHeartbeats 400000 in
theorem fr_X12_heads  (μ : Mm) : Fr [49, 50] μ (e_X12_heads  μ) := by
  unfold e_X12_heads
  refine lt_ (P := fun z => Fr [49, 50] μ z) ((upI μ 49 0 0)) (fun μ1 : Mm => (let r3 : Int32 × Int32 × Int32 := whl (fun s : Int32 × Int32 × Int32 × Int32 => bd_X12_heads_14  μ1 s.1 s.2.1 s.2.2.1 s.2.2.2) (fun _ : Int32 × Int32 × Int32 × Int32 => (0, 0, 0)) FU (0, 0, 0, 0); (let μ4 : Mm := (upI μ1 49 1 0); (let μ6 : Mm := (e_X12_enters (Int32.toInt64 (1000 + (r3.2.1))) μ4); (let μ8 : Mm := (e_X12_enters (Int32.toInt64 (1000 + (r3.2.2))) μ6); (let μ11 : Mm := (e_X12_enters (Int32.toInt64 (10000 + (v_X12_caring 0 μ8))) μ8); μ11)))))) (fun μ1 eμ1 => ?_)
  have fμ1 : Fr [49, 50] μ μ1 := by
    rw [eμ1]
    exact Fr.up Fr.rfl (by simp)
  refine lt_ (P := fun z => Fr [49, 50] μ z) (whl (fun s : Int32 × Int32 × Int32 × Int32 => bd_X12_heads_14  μ1 s.1 s.2.1 s.2.2.1 s.2.2.2) (fun _ : Int32 × Int32 × Int32 × Int32 => (0, 0, 0)) FU (0, 0, 0, 0)) (fun r3 : Int32 × Int32 × Int32 => (let μ4 : Mm := (upI μ1 49 1 0); (let μ6 : Mm := (e_X12_enters (Int32.toInt64 (1000 + (r3.2.1))) μ4); (let μ8 : Mm := (e_X12_enters (Int32.toInt64 (1000 + (r3.2.2))) μ6); (let μ11 : Mm := (e_X12_enters (Int32.toInt64 (10000 + (v_X12_caring 0 μ8))) μ8); μ11))))) (fun r3 er3 => ?_)
  refine lt_ (P := fun z => Fr [49, 50] μ z) ((upI μ1 49 1 0)) (fun μ4 : Mm => (let μ6 : Mm := (e_X12_enters (Int32.toInt64 (1000 + (r3.2.1))) μ4); (let μ8 : Mm := (e_X12_enters (Int32.toInt64 (1000 + (r3.2.2))) μ6); (let μ11 : Mm := (e_X12_enters (Int32.toInt64 (10000 + (v_X12_caring 0 μ8))) μ8); μ11)))) (fun μ4 eμ4 => ?_)
  have fμ4 : Fr [49, 50] μ μ4 := by
    rw [eμ4]
    exact Fr.up fμ1 (by simp)
  refine lt_ (P := fun z => Fr [49, 50] μ z) ((e_X12_enters (Int32.toInt64 (1000 + (r3.2.1))) μ4)) (fun μ6 : Mm => (let μ8 : Mm := (e_X12_enters (Int32.toInt64 (1000 + (r3.2.2))) μ6); (let μ11 : Mm := (e_X12_enters (Int32.toInt64 (10000 + (v_X12_caring 0 μ8))) μ8); μ11))) (fun μ6 eμ6 => ?_)
  have fμ6 : Fr [49, 50] μ μ6 := by
    rw [eμ6]
    exact Fr.call fμ4 (fr_X12_enters (Int32.toInt64 (1000 + (r3.2.1))) μ4) (by simp)
  refine lt_ (P := fun z => Fr [49, 50] μ z) ((e_X12_enters (Int32.toInt64 (1000 + (r3.2.2))) μ6)) (fun μ8 : Mm => (let μ11 : Mm := (e_X12_enters (Int32.toInt64 (10000 + (v_X12_caring 0 μ8))) μ8); μ11)) (fun μ8 eμ8 => ?_)
  have fμ8 : Fr [49, 50] μ μ8 := by
    rw [eμ8]
    exact Fr.call fμ6 (fr_X12_enters (Int32.toInt64 (1000 + (r3.2.2))) μ6) (by simp)
  refine lt_ (P := fun z => Fr [49, 50] μ z) ((e_X12_enters (Int32.toInt64 (10000 + (v_X12_caring 0 μ8))) μ8)) (fun μ11 : Mm => μ11) (fun μ11 eμ11 => ?_)
  have fμ11 : Fr [49, 50] μ μ11 := by
    rw [eμ11]
    exact Fr.call fμ8 (fr_X12_enters (Int32.toInt64 (10000 + (v_X12_caring 0 μ8))) μ8) (by simp)
  exact fμ11
set_option maxRecDepth 20000 in
set_option maxHeartbeats 400000 in
theorem fr_X12_just (p0 : Int32) (μ : Mm) : Fr [49, 50] μ (e_X12_just p0 μ) := by
  unfold e_X12_just
  refine lt_ (P := fun z => Fr [49, 50] μ z) ((upI μ 49 0 0)) (fun μ1 : Mm => (if (v_X12_in (Int32.toInt64 p0) 0 99) = 0 then μ1 else (let r4 : Int32 × Int32 := whl (fun s : Int32 × Int32 × Int32 × Int32 => bd_X12_just_26  μ1 s.1 s.2.1 s.2.2.1 s.2.2.2) (fun _ : Int32 × Int32 × Int32 × Int32 => (0, 0)) FU (p0, (-1), 0, 0); (let μ6 : Mm := (e_X12_entersFewest (r4.1) μ1); (let μ10 : Mm := (if (r4.1) < 0 then μ6 else ((e_X12_enters (Int32.toInt64 (r4.2)) μ6)) : Mm); μ10))))) (fun μ1 eμ1 => ?_)
  have fμ1 : Fr [49, 50] μ μ1 := by
    rw [eμ1]
    exact Fr.up Fr.rfl (by simp)
  refine Fr.ite ?_ ?_
  · exact fμ1
  · refine lt_ (P := fun z => Fr [49, 50] μ z) (whl (fun s : Int32 × Int32 × Int32 × Int32 => bd_X12_just_26  μ1 s.1 s.2.1 s.2.2.1 s.2.2.2) (fun _ : Int32 × Int32 × Int32 × Int32 => (0, 0)) FU (p0, (-1), 0, 0)) (fun r4 : Int32 × Int32 => (let μ6 : Mm := (e_X12_entersFewest (r4.1) μ1); (let μ10 : Mm := (if (r4.1) < 0 then μ6 else ((e_X12_enters (Int32.toInt64 (r4.2)) μ6)) : Mm); μ10))) (fun r4 er4 => ?_)
    refine lt_ (P := fun z => Fr [49, 50] μ z) ((e_X12_entersFewest (r4.1) μ1)) (fun μ6 : Mm => (let μ10 : Mm := (if (r4.1) < 0 then μ6 else ((e_X12_enters (Int32.toInt64 (r4.2)) μ6)) : Mm); μ10)) (fun μ6 eμ6 => ?_)
    have fμ6 : Fr [49, 50] μ μ6 := by
      rw [eμ6]
      exact Fr.call fμ1 (fr_X12_entersFewest (r4.1) μ1) (by simp)
    refine lt_ (P := fun z => Fr [49, 50] μ z) ((if (r4.1) < 0 then μ6 else ((e_X12_enters (Int32.toInt64 (r4.2)) μ6)) : Mm)) (fun μ10 : Mm => μ10) (fun μ10 eμ10 => ?_)
    have fμ10 : Fr [49, 50] μ μ10 := by
      rw [eμ10]
      repeat' (first | with_reducible assumption | with_reducible exact Fr.rfl | with_reducible refine Fr.ite ?_ ?_ | with_reducible refine Fr.up ?_ (by simp) | with_reducible refine Fr.upJ ?_ (by simp) | with_reducible refine Fr.call ?_ (fr_X12_enters _ _) (by simp) | with_reducible refine Fr.call ?_ (fr_X12_entersFewest _ _) (by simp))
    exact fμ10
set_option maxRecDepth 20000 in
set_option maxHeartbeats 400000 in
theorem fr_X12_leads (p0 : Int32) (p1 : Int32) (μ : Mm) : Fr [49, 52, 61] μ (e_X12_leads p0 p1 μ) := by
  unfold e_X12_leads
  refine lt_ (P := fun z => Fr [49, 52, 61] μ z) ((upI μ 49 0 0)) (fun μ1 : Mm => (let μ3 : Mm := (e_X12_putsBy  μ1); (let μ5 : Mm := (e_X12_leadsTo p0 p1 μ3); (let μ7 : Mm := (e_X12_counted (v_X12_leadsTo p0 p1 μ3) μ5); μ7)))) (fun μ1 eμ1 => ?_)
  have fμ1 : Fr [49, 52, 61] μ μ1 := by
    rw [eμ1]
    exact Fr.up Fr.rfl (by simp)
  refine lt_ (P := fun z => Fr [49, 52, 61] μ z) ((e_X12_putsBy  μ1)) (fun μ3 : Mm => (let μ5 : Mm := (e_X12_leadsTo p0 p1 μ3); (let μ7 : Mm := (e_X12_counted (v_X12_leadsTo p0 p1 μ3) μ5); μ7))) (fun μ3 eμ3 => ?_)
  have fμ3 : Fr [49, 52, 61] μ μ3 := by
    rw [eμ3]
    exact Fr.call fμ1 (fr_X12_putsBy μ1) (by simp)
  refine lt_ (P := fun z => Fr [49, 52, 61] μ z) ((e_X12_leadsTo p0 p1 μ3)) (fun μ5 : Mm => (let μ7 : Mm := (e_X12_counted (v_X12_leadsTo p0 p1 μ3) μ5); μ7)) (fun μ5 eμ5 => ?_)
  have fμ5 : Fr [49, 52, 61] μ μ5 := by
    rw [eμ5]
    exact Fr.call fμ3 (fr_X12_leadsTo p0 p1 μ3) (by simp)
  refine lt_ (P := fun z => Fr [49, 52, 61] μ z) ((e_X12_counted (v_X12_leadsTo p0 p1 μ3) μ5)) (fun μ7 : Mm => μ7) (fun μ7 eμ7 => ?_)
  have fμ7 : Fr [49, 52, 61] μ μ7 := by
    rw [eμ7]
    exact Fr.call fμ5 (fr_X12_counted (v_X12_leadsTo p0 p1 μ3) μ5) (by simp)
  exact fμ7
set_option maxRecDepth 20000 in
set_option maxHeartbeats 400000 in
theorem fw_X12_line_21  (s : Int32 × Int32 × Mm) : Fr [49, 50] (s.2.2) ((whl (fun s : Int32 × Int32 × Mm => bd_X12_line_21  s.1 s.2.1 s.2.2) (fun s : Int32 × Int32 × Mm => (0, s.2.2)) FU s).2) := by
  have key : ∀ s : Int32 × Int32 × Mm, FrS [49, 50] (s.2.2) (fun s : Int32 × Int32 × Mm => s.2.2) (fun r : Int32 × Mm => r.2) ((fun s : Int32 × Int32 × Mm => bd_X12_line_21  s.1 s.2.1 s.2.2) s) := by
    rintro ⟨x1, x2, μ⟩
    show FrS [49, 50] μ (fun s : Int32 × Int32 × Mm => s.2.2) (fun r : Int32 × Mm => r.2) (bd_X12_line_21  x1 x2 μ)
    unfold bd_X12_line_21
    refine FrS.ite ?_ ?_
    · exact FrS.inr Fr.rfl
    · refine lt_ (P := fun z => FrS [49, 50] μ (fun s : Int32 × Int32 × Mm => s.2.2) (fun r : Int32 × Mm => r.2) z) ((if (v_X12_has (v_X12_standingOn 52 x1 μ) x2) = 0 then μ else ((e_X12_enters (Int32.toInt64 x2) μ)) : Mm)) (fun μ6 : Mm => .inl (x1, (x2 + 1), μ6)) (fun μ6 eμ6 => ?_)
      have fμ6 : Fr [49, 50] μ μ6 := by
        rw [eμ6]
        repeat' (first | with_reducible assumption | with_reducible exact Fr.rfl | with_reducible refine Fr.ite ?_ ?_ | with_reducible refine Fr.up ?_ (by simp) | with_reducible refine Fr.upJ ?_ (by simp) | with_reducible refine Fr.call ?_ (fr_X12_enters _ _) (by simp))
      exact FrS.inl fμ6
  exact Fr_whlK (S := [49, 50]) (f := (fun s : Int32 × Int32 × Mm => bd_X12_line_21  s.1 s.2.1 s.2.2)) (dd := (fun s : Int32 × Int32 × Mm => (0, s.2.2))) (fun s : Int32 × Int32 × Mm => s.2.2) (fun r : Int32 × Mm => r.2) (fun _ => rfl) key FU s
set_option maxRecDepth 20000 in
set_option maxHeartbeats 400000 in
theorem fw_X12_line_13  (s : Int32 × Mm) : Fr [49, 50] (s.2) ((whl (fun s : Int32 × Mm => bd_X12_line_13  s.1 s.2) (fun s : Int32 × Mm => s.2) FU s)) := by
  have key : ∀ s : Int32 × Mm, FrS [49, 50] (s.2) (fun s : Int32 × Mm => s.2) (fun r : Mm => r) ((fun s : Int32 × Mm => bd_X12_line_13  s.1 s.2) s) := by
    rintro ⟨x1, μ⟩
    show FrS [49, 50] μ (fun s : Int32 × Mm => s.2) (fun r : Mm => r) (bd_X12_line_13  x1 μ)
    unfold bd_X12_line_13
    refine FrS.ite ?_ ?_
    · exact FrS.inr Fr.rfl
    · refine lt_ (P := fun z => FrS [49, 50] μ (fun s : Int32 × Mm => s.2) (fun r : Mm => r) z) (whl (fun s : Int32 × Int32 × Mm => bd_X12_line_21  s.1 s.2.1 s.2.2) (fun s : Int32 × Int32 × Mm => (0, s.2.2)) FU (x1, 0, μ)) (fun r3 : Int32 × Mm => .inl (((r3.1) + 1), (r3.2))) (fun r3 er3 => ?_)
      have fr3 : Fr [49, 50] μ (r3.2) := by
        rw [er3]
        exact Fr.call Fr.rfl (fw_X12_line_21  _) (by simp)
      exact FrS.inl fr3
  exact Fr_whlK (S := [49, 50]) (f := (fun s : Int32 × Mm => bd_X12_line_13  s.1 s.2)) (dd := (fun s : Int32 × Mm => s.2)) (fun s : Int32 × Mm => s.2) (fun r : Mm => r) (fun _ => rfl) key FU s
set_option maxRecDepth 20000 in
set_option maxHeartbeats 400000 in
theorem fr_X12_line  (μ : Mm) : Fr [49, 50] μ (e_X12_line  μ) := by
  unfold e_X12_line
  refine lt_ (P := fun z => Fr [49, 50] μ z) ((upI μ 49 0 0)) (fun μ1 : Mm => (let μ2 : Mm := (upI μ1 49 1 0); (let r4 : Mm := whl (fun s : Int32 × Mm => bd_X12_line_13  s.1 s.2) (fun s : Int32 × Mm => s.2) FU ((-9), μ2); r4))) (fun μ1 eμ1 => ?_)
  have fμ1 : Fr [49, 50] μ μ1 := by
    rw [eμ1]
    exact Fr.up Fr.rfl (by simp)
  refine lt_ (P := fun z => Fr [49, 50] μ z) ((upI μ1 49 1 0)) (fun μ2 : Mm => (let r4 : Mm := whl (fun s : Int32 × Mm => bd_X12_line_13  s.1 s.2) (fun s : Int32 × Mm => s.2) FU ((-9), μ2); r4)) (fun μ2 eμ2 => ?_)
  have fμ2 : Fr [49, 50] μ μ2 := by
    rw [eμ2]
    exact Fr.up fμ1 (by simp)
  refine lt_ (P := fun z => Fr [49, 50] μ z) (whl (fun s : Int32 × Mm => bd_X12_line_13  s.1 s.2) (fun s : Int32 × Mm => s.2) FU ((-9), μ2)) (fun r4 : Mm => r4) (fun r4 er4 => ?_)
  have fr4 : Fr [49, 50] μ r4 := by
    rw [er4]
    exact Fr.call fμ2 (fw_X12_line_13  _) (by simp)
  exact fr4
set_option maxRecDepth 20000 in
set_option maxHeartbeats 400000 in
theorem fr_X12_sacks (p0 : Int32) (p1 : Int32) (μ : Mm) : Fr [49, 52, 61] μ (e_X12_sacks p0 p1 μ) := by
  unfold e_X12_sacks
  refine lt_ (P := fun z => Fr [49, 52, 61] μ z) ((upI μ 49 0 0)) (fun μ1 : Mm => (let μ3 : Mm := (e_X12_putsBy  μ1); (let μ5 : Mm := (e_X12_sacksTo p0 p1 μ3); (let μ7 : Mm := (e_X12_counted (v_X12_sacksTo p0 p1 μ3) μ5); μ7)))) (fun μ1 eμ1 => ?_)
  have fμ1 : Fr [49, 52, 61] μ μ1 := by
    rw [eμ1]
    exact Fr.up Fr.rfl (by simp)
  refine lt_ (P := fun z => Fr [49, 52, 61] μ z) ((e_X12_putsBy  μ1)) (fun μ3 : Mm => (let μ5 : Mm := (e_X12_sacksTo p0 p1 μ3); (let μ7 : Mm := (e_X12_counted (v_X12_sacksTo p0 p1 μ3) μ5); μ7))) (fun μ3 eμ3 => ?_)
  have fμ3 : Fr [49, 52, 61] μ μ3 := by
    rw [eμ3]
    exact Fr.call fμ1 (fr_X12_putsBy μ1) (by simp)
  refine lt_ (P := fun z => Fr [49, 52, 61] μ z) ((e_X12_sacksTo p0 p1 μ3)) (fun μ5 : Mm => (let μ7 : Mm := (e_X12_counted (v_X12_sacksTo p0 p1 μ3) μ5); μ7)) (fun μ5 eμ5 => ?_)
  have fμ5 : Fr [49, 52, 61] μ μ5 := by
    rw [eμ5]
    exact Fr.call fμ3 (fr_X12_sacksTo p0 p1 μ3) (by simp)
  refine lt_ (P := fun z => Fr [49, 52, 61] μ z) ((e_X12_counted (v_X12_sacksTo p0 p1 μ3) μ5)) (fun μ7 : Mm => μ7) (fun μ7 eμ7 => ?_)
  have fμ7 : Fr [49, 52, 61] μ μ7 := by
    rw [eμ7]
    exact Fr.call fμ5 (fr_X12_counted (v_X12_sacksTo p0 p1 μ3) μ5) (by simp)
  exact fμ7
set_option maxRecDepth 20000 in
set_option maxHeartbeats 400000 in
theorem fr_X12_steps (p0 : Int32) (μ : Mm) : Fr [49, 52, 61] μ (e_X12_steps p0 μ) := by
  unfold e_X12_steps
  refine lt_ (P := fun z => Fr [49, 52, 61] μ z) ((upI μ 49 0 0)) (fun μ1 : Mm => (let μ3 : Mm := (e_X12_putsBy  μ1); (let μ4 : Mm := (e_X12_stepsOff 52 p0 μ3); (let μ6 : Mm := (e_X12_counted (v_X12_stepsOff 52 p0 μ3) μ4); μ6)))) (fun μ1 eμ1 => ?_)
  have fμ1 : Fr [49, 52, 61] μ μ1 := by
    rw [eμ1]
    exact Fr.up Fr.rfl (by simp)
  refine lt_ (P := fun z => Fr [49, 52, 61] μ z) ((e_X12_putsBy  μ1)) (fun μ3 : Mm => (let μ4 : Mm := (e_X12_stepsOff 52 p0 μ3); (let μ6 : Mm := (e_X12_counted (v_X12_stepsOff 52 p0 μ3) μ4); μ6))) (fun μ3 eμ3 => ?_)
  have fμ3 : Fr [49, 52, 61] μ μ3 := by
    rw [eμ3]
    exact Fr.call fμ1 (fr_X12_putsBy μ1) (by simp)
  refine lt_ (P := fun z => Fr [49, 52, 61] μ z) ((e_X12_stepsOff 52 p0 μ3)) (fun μ4 : Mm => (let μ6 : Mm := (e_X12_counted (v_X12_stepsOff 52 p0 μ3) μ4); μ6)) (fun μ4 eμ4 => ?_)
  have fμ4 : Fr [49, 52, 61] μ μ4 := by
    rw [eμ4]
    exact Fr.call fμ3 (fr_X12_stepsOff 52 p0 μ3) (by simp)
  refine lt_ (P := fun z => Fr [49, 52, 61] μ z) ((e_X12_counted (v_X12_stepsOff 52 p0 μ3) μ4)) (fun μ6 : Mm => μ6) (fun μ6 eμ6 => ?_)
  have fμ6 : Fr [49, 52, 61] μ μ6 := by
    rw [eμ6]
    exact Fr.call fμ4 (fr_X12_counted (v_X12_stepsOff 52 p0 μ3) μ4) (by simp)
  exact fμ6
set_option maxRecDepth 20000 in
set_option maxHeartbeats 400000 in
theorem fr_X12_strongest  (μ : Mm) : Fr [49, 50] μ (e_X12_strongest  μ) := by
  unfold e_X12_strongest
  refine lt_ (P := fun z => Fr [49, 50] μ z) ((upI μ 49 0 0)) (fun μ1 : Mm => (let r3 : Int32 × Int32 × Int32 := whl (fun s : Int32 × Int32 × Int32 × Int32 => bd_X12_strongest_15  μ1 s.1 s.2.1 s.2.2.1 s.2.2.2) (fun _ : Int32 × Int32 × Int32 × Int32 => (0, 0, 0)) FU ((-2), (-1), 0, 0); (let μ10 : Mm := (if (r3.1) < 0 then μ1 else ((e_X12_enters (Int32.toInt64 (r3.2.2)) ((e_X12_enters (Int32.toInt64 (r3.2.1)) ((upI μ1 49 1 0)))))) : Mm); μ10))) (fun μ1 eμ1 => ?_)
  have fμ1 : Fr [49, 50] μ μ1 := by
    rw [eμ1]
    exact Fr.up Fr.rfl (by simp)
  refine lt_ (P := fun z => Fr [49, 50] μ z) (whl (fun s : Int32 × Int32 × Int32 × Int32 => bd_X12_strongest_15  μ1 s.1 s.2.1 s.2.2.1 s.2.2.2) (fun _ : Int32 × Int32 × Int32 × Int32 => (0, 0, 0)) FU ((-2), (-1), 0, 0)) (fun r3 : Int32 × Int32 × Int32 => (let μ10 : Mm := (if (r3.1) < 0 then μ1 else ((e_X12_enters (Int32.toInt64 (r3.2.2)) ((e_X12_enters (Int32.toInt64 (r3.2.1)) ((upI μ1 49 1 0)))))) : Mm); μ10)) (fun r3 er3 => ?_)
  refine lt_ (P := fun z => Fr [49, 50] μ z) ((if (r3.1) < 0 then μ1 else ((e_X12_enters (Int32.toInt64 (r3.2.2)) ((e_X12_enters (Int32.toInt64 (r3.2.1)) ((upI μ1 49 1 0)))))) : Mm)) (fun μ10 : Mm => μ10) (fun μ10 eμ10 => ?_)
  have fμ10 : Fr [49, 50] μ μ10 := by
    rw [eμ10]
    repeat' (first | with_reducible assumption | with_reducible exact Fr.rfl | with_reducible refine Fr.ite ?_ ?_ | with_reducible refine Fr.up ?_ (by simp) | with_reducible refine Fr.upJ ?_ (by simp) | with_reducible refine Fr.call ?_ (fr_X12_enters _ _) (by simp))
  exact fμ10
set_option maxRecDepth 20000 in
set_option maxHeartbeats 400000 in
theorem fr_X12_turnsTo (p0 : Int32) (p1 : Int32) (μ : Mm) : Fr [49, 52, 61] μ (e_X12_turnsTo p0 p1 μ) := by
  unfold e_X12_turnsTo
  refine lt_ (P := fun z => Fr [49, 52, 61] μ z) ((upI μ 49 0 0)) (fun μ1 : Mm => (let μ3 : Mm := (e_X12_putsBy  μ1); (let μ5 : Mm := (e_X12_wishesTo p0 p1 μ3); (let μ7 : Mm := (e_X12_counted (v_X12_wishesTo p0 p1 μ3) μ5); μ7)))) (fun μ1 eμ1 => ?_)
  have fμ1 : Fr [49, 52, 61] μ μ1 := by
    rw [eμ1]
    exact Fr.up Fr.rfl (by simp)
  refine lt_ (P := fun z => Fr [49, 52, 61] μ z) ((e_X12_putsBy  μ1)) (fun μ3 : Mm => (let μ5 : Mm := (e_X12_wishesTo p0 p1 μ3); (let μ7 : Mm := (e_X12_counted (v_X12_wishesTo p0 p1 μ3) μ5); μ7))) (fun μ3 eμ3 => ?_)
  have fμ3 : Fr [49, 52, 61] μ μ3 := by
    rw [eμ3]
    exact Fr.call fμ1 (fr_X12_putsBy μ1) (by simp)
  refine lt_ (P := fun z => Fr [49, 52, 61] μ z) ((e_X12_wishesTo p0 p1 μ3)) (fun μ5 : Mm => (let μ7 : Mm := (e_X12_counted (v_X12_wishesTo p0 p1 μ3) μ5); μ7)) (fun μ5 eμ5 => ?_)
  have fμ5 : Fr [49, 52, 61] μ μ5 := by
    rw [eμ5]
    exact Fr.call fμ3 (fr_X12_wishesTo p0 p1 μ3) (by simp)
  refine lt_ (P := fun z => Fr [49, 52, 61] μ z) ((e_X12_counted (v_X12_wishesTo p0 p1 μ3) μ5)) (fun μ7 : Mm => μ7) (fun μ7 eμ7 => ?_)
  have fμ7 : Fr [49, 52, 61] μ μ7 := by
    rw [eμ7]
    exact Fr.call fμ5 (fr_X12_counted (v_X12_wishesTo p0 p1 μ3) μ5) (by simp)
  exact fμ7
set_option maxRecDepth 20000 in
set_option maxHeartbeats 400000 in
theorem fr_X12_walksTo (p0 : Nat) (p1 : Int32) (p2 : Int32) (μ : Mm) : Fr [59, 60] μ (e_X12_walksTo p0 p1 p2 μ) := by
  unfold e_X12_walksTo
  refine Fr.ite ?_ ?_
  · refine lt_ (P := fun z => Fr [59, 60] μ z) ((upI μ 60 (Int32.toNatClampNeg 0) (μ.1 p0 (Int32.toNatClampNeg p1)))) (fun μ3 : Mm => (let μ5 : Mm := (upI μ3 60 (Int32.toNatClampNeg 1) (μ3.1 p0 (Int32.toNatClampNeg (7 + p1)))); (let μ7 : Mm := (upI μ5 60 (Int32.toNatClampNeg 2) (v_X12_load p0 p1 μ5)); (let μ8 : Mm := (upI μ7 60 (Int32.toNatClampNeg 3) p2); (let μ10 : Mm := (upI μ8 60 (Int32.toNatClampNeg 4) (v_X12_othersOn p0 p1 μ8)); (let μ11 : Mm := (upI μ10 60 (Int32.toNatClampNeg 5) p1); (let μ12 : Mm := (upI μ11 60 (Int32.toNatClampNeg 6) ((μ11.1 p0 (Int32.toNatClampNeg 22)) - (μ11.1 p0 (Int32.toNatClampNeg 22)) / 7 * 7)); (let μ14 : Mm := (e_X12_ruled  μ12); μ14)))))))) (fun μ3 eμ3 => ?_)
    have fμ3 : Fr [59, 60] μ μ3 := by
      rw [eμ3]
      exact Fr.up Fr.rfl (by simp)
    refine lt_ (P := fun z => Fr [59, 60] μ z) ((upI μ3 60 (Int32.toNatClampNeg 1) (μ3.1 p0 (Int32.toNatClampNeg (7 + p1))))) (fun μ5 : Mm => (let μ7 : Mm := (upI μ5 60 (Int32.toNatClampNeg 2) (v_X12_load p0 p1 μ5)); (let μ8 : Mm := (upI μ7 60 (Int32.toNatClampNeg 3) p2); (let μ10 : Mm := (upI μ8 60 (Int32.toNatClampNeg 4) (v_X12_othersOn p0 p1 μ8)); (let μ11 : Mm := (upI μ10 60 (Int32.toNatClampNeg 5) p1); (let μ12 : Mm := (upI μ11 60 (Int32.toNatClampNeg 6) ((μ11.1 p0 (Int32.toNatClampNeg 22)) - (μ11.1 p0 (Int32.toNatClampNeg 22)) / 7 * 7)); (let μ14 : Mm := (e_X12_ruled  μ12); μ14))))))) (fun μ5 eμ5 => ?_)
    have fμ5 : Fr [59, 60] μ μ5 := by
      rw [eμ5]
      exact Fr.up fμ3 (by simp)
    refine lt_ (P := fun z => Fr [59, 60] μ z) ((upI μ5 60 (Int32.toNatClampNeg 2) (v_X12_load p0 p1 μ5))) (fun μ7 : Mm => (let μ8 : Mm := (upI μ7 60 (Int32.toNatClampNeg 3) p2); (let μ10 : Mm := (upI μ8 60 (Int32.toNatClampNeg 4) (v_X12_othersOn p0 p1 μ8)); (let μ11 : Mm := (upI μ10 60 (Int32.toNatClampNeg 5) p1); (let μ12 : Mm := (upI μ11 60 (Int32.toNatClampNeg 6) ((μ11.1 p0 (Int32.toNatClampNeg 22)) - (μ11.1 p0 (Int32.toNatClampNeg 22)) / 7 * 7)); (let μ14 : Mm := (e_X12_ruled  μ12); μ14)))))) (fun μ7 eμ7 => ?_)
    have fμ7 : Fr [59, 60] μ μ7 := by
      rw [eμ7]
      exact Fr.up fμ5 (by simp)
    refine lt_ (P := fun z => Fr [59, 60] μ z) ((upI μ7 60 (Int32.toNatClampNeg 3) p2)) (fun μ8 : Mm => (let μ10 : Mm := (upI μ8 60 (Int32.toNatClampNeg 4) (v_X12_othersOn p0 p1 μ8)); (let μ11 : Mm := (upI μ10 60 (Int32.toNatClampNeg 5) p1); (let μ12 : Mm := (upI μ11 60 (Int32.toNatClampNeg 6) ((μ11.1 p0 (Int32.toNatClampNeg 22)) - (μ11.1 p0 (Int32.toNatClampNeg 22)) / 7 * 7)); (let μ14 : Mm := (e_X12_ruled  μ12); μ14))))) (fun μ8 eμ8 => ?_)
    have fμ8 : Fr [59, 60] μ μ8 := by
      rw [eμ8]
      exact Fr.up fμ7 (by simp)
    refine lt_ (P := fun z => Fr [59, 60] μ z) ((upI μ8 60 (Int32.toNatClampNeg 4) (v_X12_othersOn p0 p1 μ8))) (fun μ10 : Mm => (let μ11 : Mm := (upI μ10 60 (Int32.toNatClampNeg 5) p1); (let μ12 : Mm := (upI μ11 60 (Int32.toNatClampNeg 6) ((μ11.1 p0 (Int32.toNatClampNeg 22)) - (μ11.1 p0 (Int32.toNatClampNeg 22)) / 7 * 7)); (let μ14 : Mm := (e_X12_ruled  μ12); μ14)))) (fun μ10 eμ10 => ?_)
    have fμ10 : Fr [59, 60] μ μ10 := by
      rw [eμ10]
      exact Fr.up fμ8 (by simp)
    refine lt_ (P := fun z => Fr [59, 60] μ z) ((upI μ10 60 (Int32.toNatClampNeg 5) p1)) (fun μ11 : Mm => (let μ12 : Mm := (upI μ11 60 (Int32.toNatClampNeg 6) ((μ11.1 p0 (Int32.toNatClampNeg 22)) - (μ11.1 p0 (Int32.toNatClampNeg 22)) / 7 * 7)); (let μ14 : Mm := (e_X12_ruled  μ12); μ14))) (fun μ11 eμ11 => ?_)
    have fμ11 : Fr [59, 60] μ μ11 := by
      rw [eμ11]
      exact Fr.up fμ10 (by simp)
    refine lt_ (P := fun z => Fr [59, 60] μ z) ((upI μ11 60 (Int32.toNatClampNeg 6) ((μ11.1 p0 (Int32.toNatClampNeg 22)) - (μ11.1 p0 (Int32.toNatClampNeg 22)) / 7 * 7))) (fun μ12 : Mm => (let μ14 : Mm := (e_X12_ruled  μ12); μ14)) (fun μ12 eμ12 => ?_)
    have fμ12 : Fr [59, 60] μ μ12 := by
      rw [eμ12]
      exact Fr.up fμ11 (by simp)
    refine lt_ (P := fun z => Fr [59, 60] μ z) ((e_X12_ruled  μ12)) (fun μ14 : Mm => μ14) (fun μ14 eμ14 => ?_)
    have fμ14 : Fr [59, 60] μ μ14 := by
      rw [eμ14]
      exact Fr.call fμ12 (fr_X12_ruled μ12) (by simp)
    exact fμ14
  · exact Fr.rfl
set_option maxRecDepth 20000 in
set_option maxHeartbeats 400000 in
theorem fw_X1_pass_7 (b : Nat) (p0 : Nat) (s : Int32 × Int32 × Mm) : Fr [(b + 5), (b + 6), (p0 + 2)] (s.2.2) ((whl (fun s : Int32 × Int32 × Mm => bd_X1_pass_7 b p0 s.1 s.2.1 s.2.2) (fun s : Int32 × Int32 × Mm => s.2.2) FU s)) := by
  have key : ∀ s : Int32 × Int32 × Mm, FrS [(b + 5), (b + 6), (p0 + 2)] (s.2.2) (fun s : Int32 × Int32 × Mm => s.2.2) (fun r : Mm => r) ((fun s : Int32 × Int32 × Mm => bd_X1_pass_7 b p0 s.1 s.2.1 s.2.2) s) := by
    rintro ⟨x2, x3, μ⟩
    show FrS [(b + 5), (b + 6), (p0 + 2)] μ (fun s : Int32 × Int32 × Mm => s.2.2) (fun r : Mm => r) (bd_X1_pass_7 b p0 x2 x3 μ)
    unfold bd_X1_pass_7
    refine FrS.ite ?_ ?_
    · exact FrS.inr Fr.rfl
    · refine lt_ (P := fun z => FrS [(b + 5), (b + 6), (p0 + 2)] μ (fun s : Int32 × Int32 × Mm => s.2.2) (fun r : Mm => r) z) ((e_X1_wayOf b x3 p0 x2 μ)) (fun μ3 : Mm => (let μ5 : Mm := (upI μ3 (b + 5) (Int32.toNatClampNeg x3) (v_X1_wayOf b x3 p0 x2 μ)); .inl (x2, (x3 + 1), μ5))) (fun μ3 eμ3 => ?_)
      have fμ3 : Fr [(b + 5), (b + 6), (p0 + 2)] μ μ3 := by
        rw [eμ3]
        exact Fr.call Fr.rfl (fr_X1_wayOf b x3 p0 x2 μ) (by simp)
      refine lt_ (P := fun z => FrS [(b + 5), (b + 6), (p0 + 2)] μ (fun s : Int32 × Int32 × Mm => s.2.2) (fun r : Mm => r) z) ((upI μ3 (b + 5) (Int32.toNatClampNeg x3) (v_X1_wayOf b x3 p0 x2 μ))) (fun μ5 : Mm => .inl (x2, (x3 + 1), μ5)) (fun μ5 eμ5 => ?_)
      have fμ5 : Fr [(b + 5), (b + 6), (p0 + 2)] μ μ5 := by
        rw [eμ5]
        exact Fr.up fμ3 (by simp)
      exact FrS.inl fμ5
  exact Fr_whlK (S := [(b + 5), (b + 6), (p0 + 2)]) (f := (fun s : Int32 × Int32 × Mm => bd_X1_pass_7 b p0 s.1 s.2.1 s.2.2)) (dd := (fun s : Int32 × Int32 × Mm => s.2.2)) (fun s : Int32 × Int32 × Mm => s.2.2) (fun r : Mm => r) (fun _ => rfl) key FU s
set_option maxRecDepth 20000 in
set_option maxHeartbeats 400000 in
theorem fw_X1_pass_39 (b : Nat) (p0 : Nat) (s : Int32 × Int32 × Mm) : Fr [(b + 3)] (s.2.2) ((whl (fun s : Int32 × Int32 × Mm => bd_X1_pass_39 b p0 s.1 s.2.1 s.2.2) (fun s : Int32 × Int32 × Mm => (0, s.2.2)) FU s).2) := by
  have key : ∀ s : Int32 × Int32 × Mm, FrS [(b + 3)] (s.2.2) (fun s : Int32 × Int32 × Mm => s.2.2) (fun r : Int32 × Mm => r.2) ((fun s : Int32 × Int32 × Mm => bd_X1_pass_39 b p0 s.1 s.2.1 s.2.2) s) := by
    rintro ⟨x3, x4, μ⟩
    show FrS [(b + 3)] μ (fun s : Int32 × Int32 × Mm => s.2.2) (fun r : Int32 × Mm => r.2) (bd_X1_pass_39 b p0 x3 x4 μ)
    unfold bd_X1_pass_39
    refine FrS.ite ?_ ?_
    · exact FrS.inr Fr.rfl
    · refine lt_ (P := fun z => FrS [(b + 3)] μ (fun s : Int32 × Int32 × Mm => s.2.2) (fun r : Int32 × Mm => r.2) z) ((upI μ (b + 3) (Int32.toNatClampNeg x4) ((μ.1 (b + 3) (Int32.toNatClampNeg x4)) + (μ.1 (b + 5) (Int32.toNatClampNeg x4))))) (fun μ5 : Mm => .inl ((x3 + (if (μ5.1 (b + 5) (Int32.toNatClampNeg x4)) = 0 then 0 else 1 : Int32)), (x4 + 1), μ5)) (fun μ5 eμ5 => ?_)
      have fμ5 : Fr [(b + 3)] μ μ5 := by
        rw [eμ5]
        exact Fr.up Fr.rfl (by simp)
      exact FrS.inl fμ5
  exact Fr_whlK (S := [(b + 3)]) (f := (fun s : Int32 × Int32 × Mm => bd_X1_pass_39 b p0 s.1 s.2.1 s.2.2)) (dd := (fun s : Int32 × Int32 × Mm => (0, s.2.2))) (fun s : Int32 × Int32 × Mm => s.2.2) (fun r : Int32 × Mm => r.2) (fun _ => rfl) key FU s
set_option maxRecDepth 20000 in
set_option maxHeartbeats 400000 in
theorem fr_X1_pass (b : Nat) (p0 : Nat) (μ : Mm) : Fr [(b + 3), (b + 5), (b + 6), (p0 + 2), b] μ (e_X1_pass b p0 μ) := by
  unfold e_X1_pass
  refine lt_ (P := fun z => Fr [(b + 3), (b + 5), (b + 6), (p0 + 2), b] μ z) (whl (fun s : Int32 × Int32 × Mm => bd_X1_pass_7 b p0 s.1 s.2.1 s.2.2) (fun s : Int32 × Int32 × Mm => s.2.2) FU ((v_X1_moment b μ), 0, μ)) (fun r3 : Mm => (let r5 : Int32 × Mm := whl (fun s : Int32 × Int32 × Mm => bd_X1_pass_39 b p0 s.1 s.2.1 s.2.2) (fun s : Int32 × Int32 × Mm => (0, s.2.2)) FU (0, 0, r3); (let μ6 : Mm := (upI (r5.2) b 6 (((r5.2).1 b 6) + 1)); μ6))) (fun r3 er3 => ?_)
  have fr3 : Fr [(b + 3), (b + 5), (b + 6), (p0 + 2), b] μ r3 := by
    rw [er3]
    exact Fr.call Fr.rfl (fw_X1_pass_7 b p0 _) (by simp)
  refine lt_ (P := fun z => Fr [(b + 3), (b + 5), (b + 6), (p0 + 2), b] μ z) (whl (fun s : Int32 × Int32 × Mm => bd_X1_pass_39 b p0 s.1 s.2.1 s.2.2) (fun s : Int32 × Int32 × Mm => (0, s.2.2)) FU (0, 0, r3)) (fun r5 : Int32 × Mm => (let μ6 : Mm := (upI (r5.2) b 6 (((r5.2).1 b 6) + 1)); μ6)) (fun r5 er5 => ?_)
  have fr5 : Fr [(b + 3), (b + 5), (b + 6), (p0 + 2), b] μ (r5.2) := by
    rw [er5]
    exact Fr.call fr3 (fw_X1_pass_39 b p0 _) (by simp)
  refine lt_ (P := fun z => Fr [(b + 3), (b + 5), (b + 6), (p0 + 2), b] μ z) ((upI (r5.2) b 6 (((r5.2).1 b 6) + 1))) (fun μ6 : Mm => μ6) (fun μ6 eμ6 => ?_)
  have fμ6 : Fr [(b + 3), (b + 5), (b + 6), (p0 + 2), b] μ μ6 := by
    rw [eμ6]
    exact Fr.up fr5 (by simp)
  exact fμ6
set_option maxRecDepth 20000 in
set_option maxHeartbeats 400000 in
theorem fr_X5_takeBehindThing (b : Nat) (p0 : Int32) (μ : Mm) : Fr [(b + 1), (b + 3), (b + 4), b] μ (e_X5_takeBehindThing b p0 μ) := by
  unfold e_X5_takeBehindThing
  refine Fr.ite ?_ ?_
  · refine lt_ (P := fun z => Fr [(b + 1), (b + 3), (b + 4), b] μ z) ((upI μ b 8 0)) (fun μ2 : Mm => (if p0 = 41 then (let μ5 : Mm := (e_X5_close b μ2); μ5) else (if (v_X5_rankOf p0) < 1 then μ2 else (if p0 = 126 then μ2 else (if (v_X5_rankOf p0) = 1 then (if (v_X11_isIn (μ2.1 b 7) (μ2.1 b 6)) = 0 then (let μ13 : Mm := (upI μ2 b 7 ((μ2.1 b 7) ||| (1 <<< ((μ2.1 b 6) &&& 31)))); (let μ15 : Mm := (e_X5_emitWaiting b (v_X5_rankOf p0) μ13); (let μ17 : Mm := (e_X4_push (b + 3) p0 μ15); (let μ18 : Mm := (upI μ17 b 5 1); μ18)))) else μ2) else (let μ22 : Mm := (e_X5_emitWaiting b (v_X5_rankOf p0) μ2); (let μ24 : Mm := (e_X4_push (b + 3) p0 μ22); (let μ25 : Mm := (upI μ24 b 5 1); μ25)))))))) (fun μ2 eμ2 => ?_)
    have fμ2 : Fr [(b + 1), (b + 3), (b + 4), b] μ μ2 := by
      rw [eμ2]
      exact Fr.up Fr.rfl (by simp)
    refine Fr.ite ?_ ?_
    · refine lt_ (P := fun z => Fr [(b + 1), (b + 3), (b + 4), b] μ z) ((e_X5_close b μ2)) (fun μ5 : Mm => μ5) (fun μ5 eμ5 => ?_)
      have fμ5 : Fr [(b + 1), (b + 3), (b + 4), b] μ μ5 := by
        rw [eμ5]
        exact Fr.call fμ2 (fr_X5_close b μ2) (by simp)
      exact fμ5
    · refine Fr.ite ?_ ?_
      · exact fμ2
      · refine Fr.ite ?_ ?_
        · exact fμ2
        · refine Fr.ite ?_ ?_
          · refine Fr.ite ?_ ?_
            · refine lt_ (P := fun z => Fr [(b + 1), (b + 3), (b + 4), b] μ z) ((upI μ2 b 7 ((μ2.1 b 7) ||| (1 <<< ((μ2.1 b 6) &&& 31))))) (fun μ13 : Mm => (let μ15 : Mm := (e_X5_emitWaiting b (v_X5_rankOf p0) μ13); (let μ17 : Mm := (e_X4_push (b + 3) p0 μ15); (let μ18 : Mm := (upI μ17 b 5 1); μ18)))) (fun μ13 eμ13 => ?_)
              have fμ13 : Fr [(b + 1), (b + 3), (b + 4), b] μ μ13 := by
                rw [eμ13]
                exact Fr.up fμ2 (by simp)
              refine lt_ (P := fun z => Fr [(b + 1), (b + 3), (b + 4), b] μ z) ((e_X5_emitWaiting b (v_X5_rankOf p0) μ13)) (fun μ15 : Mm => (let μ17 : Mm := (e_X4_push (b + 3) p0 μ15); (let μ18 : Mm := (upI μ17 b 5 1); μ18))) (fun μ15 eμ15 => ?_)
              have fμ15 : Fr [(b + 1), (b + 3), (b + 4), b] μ μ15 := by
                rw [eμ15]
                exact Fr.call fμ13 (fr_X5_emitWaiting b (v_X5_rankOf p0) μ13) (by simp)
              refine lt_ (P := fun z => Fr [(b + 1), (b + 3), (b + 4), b] μ z) ((e_X4_push (b + 3) p0 μ15)) (fun μ17 : Mm => (let μ18 : Mm := (upI μ17 b 5 1); μ18)) (fun μ17 eμ17 => ?_)
              have fμ17 : Fr [(b + 1), (b + 3), (b + 4), b] μ μ17 := by
                rw [eμ17]
                exact Fr.call fμ15 (fr_X4_push (b + 3) p0 μ15) (by simp)
              refine lt_ (P := fun z => Fr [(b + 1), (b + 3), (b + 4), b] μ z) ((upI μ17 b 5 1)) (fun μ18 : Mm => μ18) (fun μ18 eμ18 => ?_)
              have fμ18 : Fr [(b + 1), (b + 3), (b + 4), b] μ μ18 := by
                rw [eμ18]
                exact Fr.up fμ17 (by simp)
              exact fμ18
            · exact fμ2
          · refine lt_ (P := fun z => Fr [(b + 1), (b + 3), (b + 4), b] μ z) ((e_X5_emitWaiting b (v_X5_rankOf p0) μ2)) (fun μ22 : Mm => (let μ24 : Mm := (e_X4_push (b + 3) p0 μ22); (let μ25 : Mm := (upI μ24 b 5 1); μ25))) (fun μ22 eμ22 => ?_)
            have fμ22 : Fr [(b + 1), (b + 3), (b + 4), b] μ μ22 := by
              rw [eμ22]
              exact Fr.call fμ2 (fr_X5_emitWaiting b (v_X5_rankOf p0) μ2) (by simp)
            refine lt_ (P := fun z => Fr [(b + 1), (b + 3), (b + 4), b] μ z) ((e_X4_push (b + 3) p0 μ22)) (fun μ24 : Mm => (let μ25 : Mm := (upI μ24 b 5 1); μ25)) (fun μ24 eμ24 => ?_)
            have fμ24 : Fr [(b + 1), (b + 3), (b + 4), b] μ μ24 := by
              rw [eμ24]
              exact Fr.call fμ22 (fr_X4_push (b + 3) p0 μ22) (by simp)
            refine lt_ (P := fun z => Fr [(b + 1), (b + 3), (b + 4), b] μ z) ((upI μ24 b 5 1)) (fun μ25 : Mm => μ25) (fun μ25 eμ25 => ?_)
            have fμ25 : Fr [(b + 1), (b + 3), (b + 4), b] μ μ25 := by
              rw [eμ25]
              exact Fr.up fμ24 (by simp)
            exact fμ25
  · refine lt_ (P := fun z => Fr [(b + 1), (b + 3), (b + 4), b] μ z) ((e_X5_takeDigit b (p0 - 48) μ)) (fun μ27 : Mm => μ27) (fun μ27 eμ27 => ?_)
    have fμ27 : Fr [(b + 1), (b + 3), (b + 4), b] μ μ27 := by
      rw [eμ27]
      exact Fr.call Fr.rfl (fr_X5_takeDigit b (p0 - 48) μ) (by simp)
    exact fμ27
set_option maxRecDepth 20000 in
set_option maxHeartbeats 400000 in
theorem fr_X11_asks  (μ : Mm) : Fr [27, 28] μ (e_X11_asks  μ) := by
  unfold e_X11_asks
  refine Fr.ite ?_ ?_
  · exact Fr.rfl
  · refine lt_ (P := fun z => Fr [27, 28] μ z) (whl (fun s : Int32 × Int32 × Int32 × Int32 => bd_X11_asks_27  μ s.1 s.2.1 s.2.2.1 s.2.2.2) (fun _ : Int32 × Int32 × Int32 × Int32 => (0, 0)) FU ((v_X2_fitting 1 μ), (-2), 0, 0)) (fun r4 : Int32 × Int32 => (let μ5 : Mm := (e_X10_begin  μ); (let μ7 : Mm := (e_X10_add (Int32.toInt64 (r4.2)) μ5); μ7))) (fun r4 er4 => ?_)
    refine lt_ (P := fun z => Fr [27, 28] μ z) ((e_X10_begin  μ)) (fun μ5 : Mm => (let μ7 : Mm := (e_X10_add (Int32.toInt64 (r4.2)) μ5); μ7)) (fun μ5 eμ5 => ?_)
    have fμ5 : Fr [27, 28] μ μ5 := by
      rw [eμ5]
      exact Fr.call Fr.rfl (fr_X10_begin μ) (by simp)
    refine lt_ (P := fun z => Fr [27, 28] μ z) ((e_X10_add (Int32.toInt64 (r4.2)) μ5)) (fun μ7 : Mm => μ7) (fun μ7 eμ7 => ?_)
    have fμ7 : Fr [27, 28] μ μ7 := by
      rw [eμ7]
      exact Fr.call fμ5 (fr_X10_add (Int32.toInt64 (r4.2)) μ5) (by simp)
    exact fμ7
set_option maxRecDepth 20000 in
set_option maxHeartbeats 400000 in
theorem fw_X11_canvass_23  (s : Int32 × Mm) : Fr [34] (s.2) ((whl (fun s : Int32 × Mm => bd_X11_canvass_23  s.1 s.2) (fun s : Int32 × Mm => s.2) FU s)) := by
  have key : ∀ s : Int32 × Mm, FrS [34] (s.2) (fun s : Int32 × Mm => s.2) (fun r : Mm => r) ((fun s : Int32 × Mm => bd_X11_canvass_23  s.1 s.2) s) := by
    rintro ⟨x1, μ⟩
    show FrS [34] μ (fun s : Int32 × Mm => s.2) (fun r : Mm => r) (bd_X11_canvass_23  x1 μ)
    unfold bd_X11_canvass_23
    refine FrS.ite ?_ ?_
    · exact FrS.inr Fr.rfl
    · refine lt_ (P := fun z => FrS [34] μ (fun s : Int32 × Mm => s.2) (fun r : Mm => r) z) ((upI μ 34 (Int32.toNatClampNeg x1) (((-2) * (v_X1_load 1 x1 μ)) * (μ.1 3 (Int32.toNatClampNeg x1))))) (fun μ5 : Mm => .inl ((x1 + 1), μ5)) (fun μ5 eμ5 => ?_)
      have fμ5 : Fr [34] μ μ5 := by
        rw [eμ5]
        exact Fr.up Fr.rfl (by simp)
      exact FrS.inl fμ5
  exact Fr_whlK (S := [34]) (f := (fun s : Int32 × Mm => bd_X11_canvass_23  s.1 s.2)) (dd := (fun s : Int32 × Mm => s.2)) (fun s : Int32 × Mm => s.2) (fun r : Mm => r) (fun _ => rfl) key FU s
set_option maxRecDepth 20000 in
set_option maxHeartbeats 400000 in
theorem fr_X11_canvass  (μ : Mm) : Fr [27, 28, 33, 34] μ (e_X11_canvass  μ) := by
  unfold e_X11_canvass
  refine lt_ (P := fun z => Fr [27, 28, 33, 34] μ z) ((e_X8_start (v_X1_present 1 μ) (v_X1_care 1 μ) μ)) (fun μ2 : Mm => (let r4 : Mm := whl (fun s : Int32 × Mm => bd_X11_canvass_23  s.1 s.2) (fun s : Int32 × Mm => s.2) FU (0, μ2); (let μ6 : Mm := (e_X11_tellFewest 0 r4); μ6))) (fun μ2 eμ2 => ?_)
  have fμ2 : Fr [27, 28, 33, 34] μ μ2 := by
    rw [eμ2]
    exact Fr.call Fr.rfl (fr_X8_start (v_X1_present 1 μ) (v_X1_care 1 μ) μ) (by simp)
  refine lt_ (P := fun z => Fr [27, 28, 33, 34] μ z) (whl (fun s : Int32 × Mm => bd_X11_canvass_23  s.1 s.2) (fun s : Int32 × Mm => s.2) FU (0, μ2)) (fun r4 : Mm => (let μ6 : Mm := (e_X11_tellFewest 0 r4); μ6)) (fun r4 er4 => ?_)
  have fr4 : Fr [27, 28, 33, 34] μ r4 := by
    rw [er4]
    exact Fr.call fμ2 (fw_X11_canvass_23  _) (by simp)
  refine lt_ (P := fun z => Fr [27, 28, 33, 34] μ z) ((e_X11_tellFewest 0 r4)) (fun μ6 : Mm => μ6) (fun μ6 eμ6 => ?_)
  have fμ6 : Fr [27, 28, 33, 34] μ μ6 := by
    rw [eμ6]
    exact Fr.call fr4 (fr_X11_tellFewest 0 r4) (by simp)
  exact fμ6
set_option maxRecDepth 20000 in
set_option maxHeartbeats 400000 in
theorem fw_X11_clears_23  (s : Int32 × Mm) : Fr [34] (s.2) ((whl (fun s : Int32 × Mm => bd_X11_clears_23  s.1 s.2) (fun s : Int32 × Mm => s.2) FU s)) := by
  have key : ∀ s : Int32 × Mm, FrS [34] (s.2) (fun s : Int32 × Mm => s.2) (fun r : Mm => r) ((fun s : Int32 × Mm => bd_X11_clears_23  s.1 s.2) s) := by
    rintro ⟨x1, μ⟩
    show FrS [34] μ (fun s : Int32 × Mm => s.2) (fun r : Mm => r) (bd_X11_clears_23  x1 μ)
    unfold bd_X11_clears_23
    refine FrS.ite ?_ ?_
    · exact FrS.inr Fr.rfl
    · refine lt_ (P := fun z => FrS [34] μ (fun s : Int32 × Mm => s.2) (fun r : Mm => r) z) ((upI μ 34 (Int32.toNatClampNeg x1) ((-(v_X1_load 1 x1 μ)) * (μ.1 4 (Int32.toNatClampNeg x1))))) (fun μ5 : Mm => .inl ((x1 + 1), μ5)) (fun μ5 eμ5 => ?_)
      have fμ5 : Fr [34] μ μ5 := by
        rw [eμ5]
        exact Fr.up Fr.rfl (by simp)
      exact FrS.inl fμ5
  exact Fr_whlK (S := [34]) (f := (fun s : Int32 × Mm => bd_X11_clears_23  s.1 s.2)) (dd := (fun s : Int32 × Mm => s.2)) (fun s : Int32 × Mm => s.2) (fun r : Mm => r) (fun _ => rfl) key FU s
set_option maxRecDepth 20000 in
set_option maxHeartbeats 400000 in
theorem fr_X11_clears  (μ : Mm) : Fr [27, 28, 33, 34] μ (e_X11_clears  μ) := by
  unfold e_X11_clears
  refine lt_ (P := fun z => Fr [27, 28, 33, 34] μ z) ((e_X8_start (v_X1_present 1 μ) (v_X1_moment 1 μ) μ)) (fun μ2 : Mm => (let r4 : Mm := whl (fun s : Int32 × Mm => bd_X11_clears_23  s.1 s.2) (fun s : Int32 × Mm => s.2) FU (0, μ2); (let μ6 : Mm := (e_X11_tellFewest 1 r4); μ6))) (fun μ2 eμ2 => ?_)
  have fμ2 : Fr [27, 28, 33, 34] μ μ2 := by
    rw [eμ2]
    exact Fr.call Fr.rfl (fr_X8_start (v_X1_present 1 μ) (v_X1_moment 1 μ) μ) (by simp)
  refine lt_ (P := fun z => Fr [27, 28, 33, 34] μ z) (whl (fun s : Int32 × Mm => bd_X11_clears_23  s.1 s.2) (fun s : Int32 × Mm => s.2) FU (0, μ2)) (fun r4 : Mm => (let μ6 : Mm := (e_X11_tellFewest 1 r4); μ6)) (fun r4 er4 => ?_)
  have fr4 : Fr [27, 28, 33, 34] μ r4 := by
    rw [er4]
    exact Fr.call fμ2 (fw_X11_clears_23  _) (by simp)
  refine lt_ (P := fun z => Fr [27, 28, 33, 34] μ z) ((e_X11_tellFewest 1 r4)) (fun μ6 : Mm => μ6) (fun μ6 eμ6 => ?_)
  have fμ6 : Fr [27, 28, 33, 34] μ μ6 := by
    rw [eμ6]
    exact Fr.call fr4 (fr_X11_tellFewest 1 r4) (by simp)
  exact fμ6
set_option maxRecDepth 20000 in
set_option maxHeartbeats 400000 in
theorem fw_X11_couldWish_24  (s : Int32 × Int32 × Int32 × Mm) : Fr [11, 13, 14, 17, 46, 8] (s.2.2.2) ((whl (fun s : Int32 × Int32 × Int32 × Mm => bd_X11_couldWish_24  s.1 s.2.1 s.2.2.1 s.2.2.2) (fun s : Int32 × Int32 × Int32 × Mm => (0, s.2.2.2)) FU s).2) := by
  have key : ∀ s : Int32 × Int32 × Int32 × Mm, FrS [11, 13, 14, 17, 46, 8] (s.2.2.2) (fun s : Int32 × Int32 × Int32 × Mm => s.2.2.2) (fun r : Int32 × Mm => r.2) ((fun s : Int32 × Int32 × Int32 × Mm => bd_X11_couldWish_24  s.1 s.2.1 s.2.2.1 s.2.2.2) s) := by
    rintro ⟨x1, x3, x4, μ⟩
    show FrS [11, 13, 14, 17, 46, 8] μ (fun s : Int32 × Int32 × Int32 × Mm => s.2.2.2) (fun r : Int32 × Mm => r.2) (bd_X11_couldWish_24  x1 x3 x4 μ)
    unfold bd_X11_couldWish_24
    refine FrS.ite ?_ ?_
    · exact FrS.inr Fr.rfl
    · refine FrS.ite ?_ ?_
      · exact FrS.inr Fr.rfl
      · refine lt_ (P := fun z => FrS [11, 13, 14, 17, 46, 8] μ (fun s : Int32 × Int32 × Int32 × Mm => s.2.2.2) (fun r : Int32 × Mm => r.2) z) ((if x4 ≤ 0 then μ else ((e_X1_pass 8 15 μ)) : Mm)) (fun μ6 : Mm => (if (v_X6_agree x4 8 μ6) = 0 then .inr (0, μ6) else (let μ11 : Mm := (upI μ6 46 (Int32.toNatClampNeg x4) (v_X1_placeOf 8 x1 μ6)); .inl (x1, x3, (x4 + 1), μ11)))) (fun μ6 eμ6 => ?_)
        have fμ6 : Fr [11, 13, 14, 17, 46, 8] μ μ6 := by
          rw [eμ6]
          repeat' (first | with_reducible assumption | with_reducible exact Fr.rfl | with_reducible refine Fr.ite ?_ ?_ | with_reducible refine Fr.up ?_ (by simp) | with_reducible refine Fr.upJ ?_ (by simp) | with_reducible refine Fr.call ?_ (fr_X1_become _ _ _) (by simp) | with_reducible refine Fr.call ?_ (fr_X1_pass _ _ _) (by simp) | with_reducible refine Fr.call ?_ (fr_X1_turn _ _ _ _) (by simp))
        refine FrS.ite ?_ ?_
        · exact FrS.inr fμ6
        · refine lt_ (P := fun z => FrS [11, 13, 14, 17, 46, 8] μ (fun s : Int32 × Int32 × Int32 × Mm => s.2.2.2) (fun r : Int32 × Mm => r.2) z) ((upI μ6 46 (Int32.toNatClampNeg x4) (v_X1_placeOf 8 x1 μ6))) (fun μ11 : Mm => .inl (x1, x3, (x4 + 1), μ11)) (fun μ11 eμ11 => ?_)
          have fμ11 : Fr [11, 13, 14, 17, 46, 8] μ μ11 := by
            rw [eμ11]
            exact Fr.up fμ6 (by simp)
          exact FrS.inl fμ11
  exact Fr_whlK (S := [11, 13, 14, 17, 46, 8]) (f := (fun s : Int32 × Int32 × Int32 × Mm => bd_X11_couldWish_24  s.1 s.2.1 s.2.2.1 s.2.2.2)) (dd := (fun s : Int32 × Int32 × Int32 × Mm => (0, s.2.2.2))) (fun s : Int32 × Int32 × Int32 × Mm => s.2.2.2) (fun r : Int32 × Mm => r.2) (fun _ => rfl) key FU s
set_option maxRecDepth 20000 in
set_option maxHeartbeats 400000 in
theorem fr_X11_couldWish (p0 : Int32) (p1 : Int32) (p2 : Int32) (μ : Mm) : Fr [10, 11, 12, 13, 14, 17, 46, 8, 9] μ (e_X11_couldWish p0 p1 p2 μ) := by
  unfold e_X11_couldWish
  refine lt_ (P := fun z => Fr [10, 11, 12, 13, 14, 17, 46, 8, 9] μ z) ((e_X1_become 8 1 μ)) (fun μ2 : Mm => (let μ4 : Mm := (e_X1_turn 8 p0 p1 μ2); (whl (fun s : Int32 × Int32 × Int32 × Mm => bd_X11_couldWish_24  s.1 s.2.1 s.2.2.1 s.2.2.2) (fun s : Int32 × Int32 × Int32 × Mm => (0, s.2.2.2)) FU (p0, p2, 0, μ4)).2)) (fun μ2 eμ2 => ?_)
  have fμ2 : Fr [10, 11, 12, 13, 14, 17, 46, 8, 9] μ μ2 := by
    rw [eμ2]
    exact Fr.call Fr.rfl (fr_X1_become 8 1 μ) (by simp)
  refine lt_ (P := fun z => Fr [10, 11, 12, 13, 14, 17, 46, 8, 9] μ z) ((e_X1_turn 8 p0 p1 μ2)) (fun μ4 : Mm => (whl (fun s : Int32 × Int32 × Int32 × Mm => bd_X11_couldWish_24  s.1 s.2.1 s.2.2.1 s.2.2.2) (fun s : Int32 × Int32 × Int32 × Mm => (0, s.2.2.2)) FU (p0, p2, 0, μ4)).2) (fun μ4 eμ4 => ?_)
  have fμ4 : Fr [10, 11, 12, 13, 14, 17, 46, 8, 9] μ μ4 := by
    rw [eμ4]
    exact Fr.call fμ2 (fr_X1_turn 8 p0 p1 μ2) (by simp)
  exact Fr.call fμ4 (fw_X11_couldWish_24  _) (by simp)
set_option maxRecDepth 20000 in
set_option maxHeartbeats 400000 in
theorem fr_X11_fits  (μ : Mm) : Fr [27, 28] μ (e_X11_fits  μ) := by
  unfold e_X11_fits
  refine lt_ (P := fun z => Fr [27, 28] μ z) ((e_X10_begin  μ)) (fun μ2 : Mm => (let μ4 : Mm := (e_X10_add (Int32.toInt64 (v_J6_bitCount_0f7a4 (v_X2_fitting 1 μ))) μ2); μ4)) (fun μ2 eμ2 => ?_)
  have fμ2 : Fr [27, 28] μ μ2 := by
    rw [eμ2]
    exact Fr.call Fr.rfl (fr_X10_begin μ) (by simp)
  refine lt_ (P := fun z => Fr [27, 28] μ z) ((e_X10_add (Int32.toInt64 (v_J6_bitCount_0f7a4 (v_X2_fitting 1 μ))) μ2)) (fun μ4 : Mm => μ4) (fun μ4 eμ4 => ?_)
  have fμ4 : Fr [27, 28] μ μ4 := by
    rw [eμ4]
    exact Fr.call fμ2 (fr_X10_add (Int32.toInt64 (v_J6_bitCount_0f7a4 (v_X2_fitting 1 μ))) μ2) (by simp)
  exact fμ4
set_option maxRecDepth 20000 in
set_option maxHeartbeats 400000 in
theorem fw_X11_just_30  (s : Int32 × Mm) : Fr [34] (s.2) ((whl (fun s : Int32 × Mm => bd_X11_just_30  s.1 s.2) (fun s : Int32 × Mm => s.2) FU s)) := by
  have key : ∀ s : Int32 × Mm, FrS [34] (s.2) (fun s : Int32 × Mm => s.2) (fun r : Mm => r) ((fun s : Int32 × Mm => bd_X11_just_30  s.1 s.2) s) := by
    rintro ⟨x2, μ⟩
    show FrS [34] μ (fun s : Int32 × Mm => s.2) (fun r : Mm => r) (bd_X11_just_30  x2 μ)
    unfold bd_X11_just_30
    refine FrS.ite ?_ ?_
    · exact FrS.inr Fr.rfl
    · refine lt_ (P := fun z => FrS [34] μ (fun s : Int32 × Mm => s.2) (fun r : Mm => r) z) ((upI μ 34 (Int32.toNatClampNeg x2) (v_X1_load 1 x2 μ))) (fun μ4 : Mm => .inl ((x2 + 1), μ4)) (fun μ4 eμ4 => ?_)
      have fμ4 : Fr [34] μ μ4 := by
        rw [eμ4]
        exact Fr.up Fr.rfl (by simp)
      exact FrS.inl fμ4
  exact Fr_whlK (S := [34]) (f := (fun s : Int32 × Mm => bd_X11_just_30  s.1 s.2)) (dd := (fun s : Int32 × Mm => s.2)) (fun s : Int32 × Mm => s.2) (fun r : Mm => r) (fun _ => rfl) key FU s
set_option maxRecDepth 20000 in
set_option maxHeartbeats 400000 in
theorem fr_X11_just (p0 : Int32) (μ : Mm) : Fr [27, 28, 33, 34] μ (e_X11_just p0 μ) := by
  unfold e_X11_just
  refine Fr.ite ?_ ?_
  · exact Fr.rfl
  · refine Fr.ite ?_ ?_
    · refine lt_ (P := fun z => Fr [27, 28, 33, 34] μ z) ((e_X8_start (v_X1_present 1 μ) (-p0) μ)) (fun μ3 : Mm => (let r5 : Mm := whl (fun s : Int32 × Mm => bd_X11_just_30  s.1 s.2) (fun s : Int32 × Mm => s.2) FU (0, μ3); (let μ7 : Mm := (e_X11_tellFewest 1 r5); (let μ11 : Mm := (if (v_X11_tellFewest 1 r5) = (-2) then μ7 else ((e_X10_add (Int32.toInt64 (μ7.1 33 4)) μ7)) : Mm); μ11)))) (fun μ3 eμ3 => ?_)
      have fμ3 : Fr [27, 28, 33, 34] μ μ3 := by
        rw [eμ3]
        exact Fr.call Fr.rfl (fr_X8_start (v_X1_present 1 μ) (-p0) μ) (by simp)
      refine lt_ (P := fun z => Fr [27, 28, 33, 34] μ z) (whl (fun s : Int32 × Mm => bd_X11_just_30  s.1 s.2) (fun s : Int32 × Mm => s.2) FU (0, μ3)) (fun r5 : Mm => (let μ7 : Mm := (e_X11_tellFewest 1 r5); (let μ11 : Mm := (if (v_X11_tellFewest 1 r5) = (-2) then μ7 else ((e_X10_add (Int32.toInt64 (μ7.1 33 4)) μ7)) : Mm); μ11))) (fun r5 er5 => ?_)
      have fr5 : Fr [27, 28, 33, 34] μ r5 := by
        rw [er5]
        exact Fr.call fμ3 (fw_X11_just_30  _) (by simp)
      refine lt_ (P := fun z => Fr [27, 28, 33, 34] μ z) ((e_X11_tellFewest 1 r5)) (fun μ7 : Mm => (let μ11 : Mm := (if (v_X11_tellFewest 1 r5) = (-2) then μ7 else ((e_X10_add (Int32.toInt64 (μ7.1 33 4)) μ7)) : Mm); μ11)) (fun μ7 eμ7 => ?_)
      have fμ7 : Fr [27, 28, 33, 34] μ μ7 := by
        rw [eμ7]
        exact Fr.call fr5 (fr_X11_tellFewest 1 r5) (by simp)
      refine lt_ (P := fun z => Fr [27, 28, 33, 34] μ z) ((if (v_X11_tellFewest 1 r5) = (-2) then μ7 else ((e_X10_add (Int32.toInt64 (μ7.1 33 4)) μ7)) : Mm)) (fun μ11 : Mm => μ11) (fun μ11 eμ11 => ?_)
      have fμ11 : Fr [27, 28, 33, 34] μ μ11 := by
        rw [eμ11]
        repeat' (first | with_reducible assumption | with_reducible exact Fr.rfl | with_reducible refine Fr.ite ?_ ?_ | with_reducible refine Fr.up ?_ (by simp) | with_reducible refine Fr.upJ ?_ (by simp) | with_reducible refine Fr.call ?_ (fr_X10_add _ _) (by simp) | with_reducible refine Fr.call ?_ (fr_X11_tellFewest _ _) (by simp) | with_reducible refine Fr.call ?_ (fr_X8_start _ _ _) (by simp) | with_reducible refine Fr.call ?_ (fw_X11_just_30  _) (by simp))
      exact fμ11
    · exact Fr.rfl
set_option maxRecDepth 20000 in
set_option maxHeartbeats 400000 in
theorem fw_X11_level_22  (s : Int32 × Int32 × Mm) : Fr [11, 13, 14, 17, 27, 28, 8] (s.2.2) ((whl (fun s : Int32 × Int32 × Mm => bd_X11_level_22  s.1 s.2.1 s.2.2) (fun s : Int32 × Int32 × Mm => (0, s.2.2)) FU s).2) := by
  have key : ∀ s : Int32 × Int32 × Mm, FrS [11, 13, 14, 17, 27, 28, 8] (s.2.2) (fun s : Int32 × Int32 × Mm => s.2.2) (fun r : Int32 × Mm => r.2) ((fun s : Int32 × Int32 × Mm => bd_X11_level_22  s.1 s.2.1 s.2.2) s) := by
    rintro ⟨x1, x2, μ⟩
    show FrS [11, 13, 14, 17, 27, 28, 8] μ (fun s : Int32 × Int32 × Mm => s.2.2) (fun r : Int32 × Mm => r.2) (bd_X11_level_22  x1 x2 μ)
    unfold bd_X11_level_22
    refine FrS.ite ?_ ?_
    · exact FrS.inr Fr.rfl
    · refine lt_ (P := fun z => FrS [11, 13, 14, 17, 27, 28, 8] μ (fun s : Int32 × Int32 × Mm => s.2.2) (fun r : Int32 × Mm => r.2) z) ((if (v_X1_moment 8 μ) = 0 then ((if x1 = 0 then ((e_X10_add (Int32.toInt64 x2) μ)) else μ : Mm)) else μ : Mm)) (fun μ9 : Mm => (let μ11 : Mm := (e_X1_pass 8 15 μ9); .inl ((if (v_X1_moment 8 μ) = 0 then (x1 + 1) else x1 : Int32), (x2 + 1), μ11))) (fun μ9 eμ9 => ?_)
      have fμ9 : Fr [11, 13, 14, 17, 27, 28, 8] μ μ9 := by
        rw [eμ9]
        repeat' (first | with_reducible assumption | with_reducible exact Fr.rfl | with_reducible refine Fr.ite ?_ ?_ | with_reducible refine Fr.up ?_ (by simp) | with_reducible refine Fr.upJ ?_ (by simp) | with_reducible refine Fr.call ?_ (fr_X10_add _ _) (by simp) | with_reducible refine Fr.call ?_ (fr_X10_begin _) (by simp) | with_reducible refine Fr.call ?_ (fr_X1_become _ _ _) (by simp) | with_reducible refine Fr.call ?_ (fr_X1_pass _ _ _) (by simp))
      refine lt_ (P := fun z => FrS [11, 13, 14, 17, 27, 28, 8] μ (fun s : Int32 × Int32 × Mm => s.2.2) (fun r : Int32 × Mm => r.2) z) ((e_X1_pass 8 15 μ9)) (fun μ11 : Mm => .inl ((if (v_X1_moment 8 μ) = 0 then (x1 + 1) else x1 : Int32), (x2 + 1), μ11)) (fun μ11 eμ11 => ?_)
      have fμ11 : Fr [11, 13, 14, 17, 27, 28, 8] μ μ11 := by
        rw [eμ11]
        exact Fr.call fμ9 (fr_X1_pass 8 15 μ9) (by simp)
      exact FrS.inl fμ11
  exact Fr_whlK (S := [11, 13, 14, 17, 27, 28, 8]) (f := (fun s : Int32 × Int32 × Mm => bd_X11_level_22  s.1 s.2.1 s.2.2)) (dd := (fun s : Int32 × Int32 × Mm => (0, s.2.2))) (fun s : Int32 × Int32 × Mm => s.2.2) (fun r : Int32 × Mm => r.2) (fun _ => rfl) key FU s
set_option maxRecDepth 20000 in
set_option maxHeartbeats 400000 in
theorem fr_X11_level  (μ : Mm) : Fr [10, 11, 12, 13, 14, 17, 27, 28, 8, 9] μ (e_X11_level  μ) := by
  unfold e_X11_level
  refine lt_ (P := fun z => Fr [10, 11, 12, 13, 14, 17, 27, 28, 8, 9] μ z) ((e_X1_become 8 1 μ)) (fun μ2 : Mm => (let μ3 : Mm := (e_X10_begin  μ2); (let r5 : Int32 × Mm := whl (fun s : Int32 × Int32 × Mm => bd_X11_level_22  s.1 s.2.1 s.2.2) (fun s : Int32 × Int32 × Mm => (0, s.2.2)) FU (0, 0, μ3); (r5.2)))) (fun μ2 eμ2 => ?_)
  have fμ2 : Fr [10, 11, 12, 13, 14, 17, 27, 28, 8, 9] μ μ2 := by
    rw [eμ2]
    exact Fr.call Fr.rfl (fr_X1_become 8 1 μ) (by simp)
  refine lt_ (P := fun z => Fr [10, 11, 12, 13, 14, 17, 27, 28, 8, 9] μ z) ((e_X10_begin  μ2)) (fun μ3 : Mm => (let r5 : Int32 × Mm := whl (fun s : Int32 × Int32 × Mm => bd_X11_level_22  s.1 s.2.1 s.2.2) (fun s : Int32 × Int32 × Mm => (0, s.2.2)) FU (0, 0, μ3); (r5.2))) (fun μ3 eμ3 => ?_)
  have fμ3 : Fr [10, 11, 12, 13, 14, 17, 27, 28, 8, 9] μ μ3 := by
    rw [eμ3]
    exact Fr.call fμ2 (fr_X10_begin μ2) (by simp)
  refine lt_ (P := fun z => Fr [10, 11, 12, 13, 14, 17, 27, 28, 8, 9] μ z) (whl (fun s : Int32 × Int32 × Mm => bd_X11_level_22  s.1 s.2.1 s.2.2) (fun s : Int32 × Int32 × Mm => (0, s.2.2)) FU (0, 0, μ3)) (fun r5 : Int32 × Mm => (r5.2)) (fun r5 er5 => ?_)
  have fr5 : Fr [10, 11, 12, 13, 14, 17, 27, 28, 8, 9] μ (r5.2) := by
    rw [er5]
    exact Fr.call fμ3 (fw_X11_level_22  _) (by simp)
  exact fr5
set_option maxRecDepth 20000 in
set_option maxHeartbeats 400000 in
theorem fr_X11_power (p0 : Int32) (μ : Mm) : Fr [27, 28, 33, 34] μ (e_X11_power p0 μ) := by
  unfold e_X11_power
  refine Fr.ite ?_ ?_
  · exact Fr.rfl
  · refine Fr.ite ?_ ?_
    · refine lt_ (P := fun z => Fr [27, 28, 33, 34] μ z) ((e_X11_waysDecidedBy p0 μ)) (fun μ4 : Mm => (let μ6 : Mm := (e_X11_tellFraction (Int32.toInt64 (v_X11_waysDecidedBy p0 μ)) (Int32.toInt64 (1 <<< ((if 0 < ((v_J6_bitCount_0f7a4 (v_X1_present 1 μ4)) - 1) then ((v_J6_bitCount_0f7a4 (v_X1_present 1 μ4)) - 1) else 0) &&& 31))) μ4); μ6)) (fun μ4 eμ4 => ?_)
      have fμ4 : Fr [27, 28, 33, 34] μ μ4 := by
        rw [eμ4]
        exact Fr.call Fr.rfl (fr_X11_waysDecidedBy p0 μ) (by simp)
      refine lt_ (P := fun z => Fr [27, 28, 33, 34] μ z) ((e_X11_tellFraction (Int32.toInt64 (v_X11_waysDecidedBy p0 μ)) (Int32.toInt64 (1 <<< ((if 0 < ((v_J6_bitCount_0f7a4 (v_X1_present 1 μ4)) - 1) then ((v_J6_bitCount_0f7a4 (v_X1_present 1 μ4)) - 1) else 0) &&& 31))) μ4)) (fun μ6 : Mm => μ6) (fun μ6 eμ6 => ?_)
      have fμ6 : Fr [27, 28, 33, 34] μ μ6 := by
        rw [eμ6]
        exact Fr.call fμ4 (fr_X11_tellFraction (Int32.toInt64 (v_X11_waysDecidedBy p0 μ)) (Int32.toInt64 (1 <<< ((if 0 < ((v_J6_bitCount_0f7a4 (v_X1_present 1 μ4)) - 1) then ((v_J6_bitCount_0f7a4 (v_X1_present 1 μ4)) - 1) else 0) &&& 31))) μ4) (by simp)
      exact fμ6
    · exact Fr.rfl
set_option maxRecDepth 20000 in
set_option maxHeartbeats 400000 in
theorem fw_X11_rest_13  (s : Int32 × Mm) : Fr [11, 13, 14, 17, 27, 28, 8] (s.2) ((whl (fun s : Int32 × Mm => bd_X11_rest_13  s.1 s.2) (fun s : Int32 × Mm => (0, s.2)) FU s).2) := by
  have key : ∀ s : Int32 × Mm, FrS [11, 13, 14, 17, 27, 28, 8] (s.2) (fun s : Int32 × Mm => s.2) (fun r : Int32 × Mm => r.2) ((fun s : Int32 × Mm => bd_X11_rest_13  s.1 s.2) s) := by
    rintro ⟨x1, μ⟩
    show FrS [11, 13, 14, 17, 27, 28, 8] μ (fun s : Int32 × Mm => s.2) (fun r : Int32 × Mm => r.2) (bd_X11_rest_13  x1 μ)
    unfold bd_X11_rest_13
    refine FrS.ite ?_ ?_
    · exact FrS.inr Fr.rfl
    · refine lt_ (P := fun z => FrS [11, 13, 14, 17, 27, 28, 8] μ (fun s : Int32 × Mm => s.2) (fun r : Int32 × Mm => r.2) z) ((e_X1_pass 8 15 μ)) (fun μ4 : Mm => (if (v_X1_pass 8 15 μ) = 0 then (let μ6 : Mm := (e_X10_begin  μ4); (let μ8 : Mm := (e_X10_add (Int32.toInt64 (2000 + (v_X1_moment 8 μ))) μ6); .inr (x1, μ8))) else .inl ((x1 + 1), μ4))) (fun μ4 eμ4 => ?_)
      have fμ4 : Fr [11, 13, 14, 17, 27, 28, 8] μ μ4 := by
        rw [eμ4]
        exact Fr.call Fr.rfl (fr_X1_pass 8 15 μ) (by simp)
      refine FrS.ite ?_ ?_
      · refine lt_ (P := fun z => FrS [11, 13, 14, 17, 27, 28, 8] μ (fun s : Int32 × Mm => s.2) (fun r : Int32 × Mm => r.2) z) ((e_X10_begin  μ4)) (fun μ6 : Mm => (let μ8 : Mm := (e_X10_add (Int32.toInt64 (2000 + (v_X1_moment 8 μ))) μ6); .inr (x1, μ8))) (fun μ6 eμ6 => ?_)
        have fμ6 : Fr [11, 13, 14, 17, 27, 28, 8] μ μ6 := by
          rw [eμ6]
          exact Fr.call fμ4 (fr_X10_begin μ4) (by simp)
        refine lt_ (P := fun z => FrS [11, 13, 14, 17, 27, 28, 8] μ (fun s : Int32 × Mm => s.2) (fun r : Int32 × Mm => r.2) z) ((e_X10_add (Int32.toInt64 (2000 + (v_X1_moment 8 μ))) μ6)) (fun μ8 : Mm => .inr (x1, μ8)) (fun μ8 eμ8 => ?_)
        have fμ8 : Fr [11, 13, 14, 17, 27, 28, 8] μ μ8 := by
          rw [eμ8]
          exact Fr.call fμ6 (fr_X10_add (Int32.toInt64 (2000 + (v_X1_moment 8 μ))) μ6) (by simp)
        exact FrS.inr fμ8
      · exact FrS.inl fμ4
  exact Fr_whlK (S := [11, 13, 14, 17, 27, 28, 8]) (f := (fun s : Int32 × Mm => bd_X11_rest_13  s.1 s.2)) (dd := (fun s : Int32 × Mm => (0, s.2))) (fun s : Int32 × Mm => s.2) (fun r : Int32 × Mm => r.2) (fun _ => rfl) key FU s
set_option maxRecDepth 20000 in
set_option maxHeartbeats 400000 in
theorem fr_X11_rest  (μ : Mm) : Fr [10, 11, 12, 13, 14, 17, 27, 28, 8, 9] μ (e_X11_rest  μ) := by
  unfold e_X11_rest
  refine lt_ (P := fun z => Fr [10, 11, 12, 13, 14, 17, 27, 28, 8, 9] μ z) ((e_X1_become 8 1 μ)) (fun μ2 : Mm => (whl (fun s : Int32 × Mm => bd_X11_rest_13  s.1 s.2) (fun s : Int32 × Mm => (0, s.2)) FU (0, μ2)).2) (fun μ2 eμ2 => ?_)
  have fμ2 : Fr [10, 11, 12, 13, 14, 17, 27, 28, 8, 9] μ μ2 := by
    rw [eμ2]
    exact Fr.call Fr.rfl (fr_X1_become 8 1 μ) (by simp)
  exact Fr.call fμ2 (fw_X11_rest_13  _) (by simp)
set_option maxRecDepth 20000 in
set_option maxHeartbeats 400000 in
theorem fw_X11_strongest_10  (s : Int32 × Int32 × Int32 × Int32 × Mm) : Fr [33, 34] (s.2.2.2.2) ((whl (fun s : Int32 × Int32 × Int32 × Int32 × Mm => bd_X11_strongest_10  s.1 s.2.1 s.2.2.1 s.2.2.2.1 s.2.2.2.2) (fun s : Int32 × Int32 × Int32 × Int32 × Mm => (0, 0, 0, s.2.2.2.2)) FU s).2.2.2) := by
  have key : ∀ s : Int32 × Int32 × Int32 × Int32 × Mm, FrS [33, 34] (s.2.2.2.2) (fun s : Int32 × Int32 × Int32 × Int32 × Mm => s.2.2.2.2) (fun r : Int32 × Int32 × Int32 × Mm => r.2.2.2) ((fun s : Int32 × Int32 × Int32 × Int32 × Mm => bd_X11_strongest_10  s.1 s.2.1 s.2.2.1 s.2.2.2.1 s.2.2.2.2) s) := by
    rintro ⟨x1, x2, x3, x4, μ⟩
    show FrS [33, 34] μ (fun s : Int32 × Int32 × Int32 × Int32 × Mm => s.2.2.2.2) (fun r : Int32 × Int32 × Int32 × Mm => r.2.2.2) (bd_X11_strongest_10  x1 x2 x3 x4 μ)
    unfold bd_X11_strongest_10
    refine FrS.ite ?_ ?_
    · exact FrS.inr Fr.rfl
    · refine lt_ (P := fun z => FrS [33, 34] μ (fun s : Int32 × Int32 × Int32 × Int32 × Mm => s.2.2.2.2) (fun r : Int32 × Int32 × Int32 × Mm => r.2.2.2) z) ((if (v_X1_isOff 1 x4 μ) = 0 then ((e_X11_waysDecidedBy x4 μ)) else μ : Mm)) (fun μ7 : Mm => .inl ((if (v_X1_isOff 1 x4 μ) = 0 then (if x1 = (-2) then x4 else (if (v_X11_waysDecidedBy x4 μ) ≤ x2 then x1 else x4 : Int32) : Int32) else x1 : Int32), (if (v_X1_isOff 1 x4 μ) = 0 then (if x1 = (-2) then (v_X11_waysDecidedBy x4 μ) else (if (v_X11_waysDecidedBy x4 μ) ≤ x2 then x2 else (v_X11_waysDecidedBy x4 μ) : Int32) : Int32) else x2 : Int32), (if (v_X1_isOff 1 x4 μ) = 0 then (x3 + (v_X11_waysDecidedBy x4 μ)) else x3 : Int32), (x4 + 1), μ7)) (fun μ7 eμ7 => ?_)
      have fμ7 : Fr [33, 34] μ μ7 := by
        rw [eμ7]
        repeat' (first | with_reducible assumption | with_reducible exact Fr.rfl | with_reducible refine Fr.ite ?_ ?_ | with_reducible refine Fr.up ?_ (by simp) | with_reducible refine Fr.upJ ?_ (by simp) | with_reducible refine Fr.call ?_ (fr_X10_add _ _) (by simp) | with_reducible refine Fr.call ?_ (fr_X10_begin _) (by simp) | with_reducible refine Fr.call ?_ (fr_X11_waysDecidedBy _ _) (by simp))
      exact FrS.inl fμ7
  exact Fr_whlK (S := [33, 34]) (f := (fun s : Int32 × Int32 × Int32 × Int32 × Mm => bd_X11_strongest_10  s.1 s.2.1 s.2.2.1 s.2.2.2.1 s.2.2.2.2)) (dd := (fun s : Int32 × Int32 × Int32 × Int32 × Mm => (0, 0, 0, s.2.2.2.2))) (fun s : Int32 × Int32 × Int32 × Int32 × Mm => s.2.2.2.2) (fun r : Int32 × Int32 × Int32 × Mm => r.2.2.2) (fun _ => rfl) key FU s
set_option maxRecDepth 20000 in
set_option maxHeartbeats 400000 in
theorem fr_X11_strongest  (μ : Mm) : Fr [27, 28, 33, 34] μ (e_X11_strongest  μ) := by
  unfold e_X11_strongest
  refine lt_ (P := fun z => Fr [27, 28, 33, 34] μ z) (whl (fun s : Int32 × Int32 × Int32 × Int32 × Mm => bd_X11_strongest_10  s.1 s.2.1 s.2.2.1 s.2.2.2.1 s.2.2.2.2) (fun s : Int32 × Int32 × Int32 × Int32 × Mm => (0, 0, 0, s.2.2.2.2)) FU ((-2), 0, 0, 0, μ)) (fun r2 : Int32 × Int32 × Int32 × Mm => (let μ9 : Mm := (if (r2.1) = (-2) then (r2.2.2.2) else ((e_X10_add (Int32.toInt64 (r2.2.2.1)) ((e_X10_add (Int32.toInt64 (r2.2.1)) ((e_X10_begin  (r2.2.2.2))))))) : Mm); μ9)) (fun r2 er2 => ?_)
  have fr2 : Fr [27, 28, 33, 34] μ (r2.2.2.2) := by
    rw [er2]
    exact Fr.call Fr.rfl (fw_X11_strongest_10  _) (by simp)
  refine lt_ (P := fun z => Fr [27, 28, 33, 34] μ z) ((if (r2.1) = (-2) then (r2.2.2.2) else ((e_X10_add (Int32.toInt64 (r2.2.2.1)) ((e_X10_add (Int32.toInt64 (r2.2.1)) ((e_X10_begin  (r2.2.2.2))))))) : Mm)) (fun μ9 : Mm => μ9) (fun μ9 eμ9 => ?_)
  have fμ9 : Fr [27, 28, 33, 34] μ μ9 := by
    rw [eμ9]
    repeat' (first | with_reducible assumption | with_reducible exact Fr.rfl | with_reducible refine Fr.ite ?_ ?_ | with_reducible refine Fr.up ?_ (by simp) | with_reducible refine Fr.upJ ?_ (by simp) | with_reducible refine Fr.call ?_ (fr_X10_add _ _) (by simp) | with_reducible refine Fr.call ?_ (fr_X10_begin _) (by simp) | with_reducible refine Fr.call ?_ (fr_X11_waysDecidedBy _ _) (by simp) | with_reducible refine Fr.call ?_ (fw_X11_strongest_10  _) (by simp))
  exact fμ9
set_option maxRecDepth 20000 in
set_option maxHeartbeats 400000 in
theorem fw_X11_swings_24  (s : Int32 × Int32 × Mm) : Fr [11, 13, 14, 17, 27, 28, 8] (s.2.2) ((whl (fun s : Int32 × Int32 × Mm => bd_X11_swings_24  s.1 s.2.1 s.2.2) (fun s : Int32 × Int32 × Mm => (0, s.2.2)) FU s).2) := by
  have key : ∀ s : Int32 × Int32 × Mm, FrS [11, 13, 14, 17, 27, 28, 8] (s.2.2) (fun s : Int32 × Int32 × Mm => s.2.2) (fun r : Int32 × Mm => r.2) ((fun s : Int32 × Int32 × Mm => bd_X11_swings_24  s.1 s.2.1 s.2.2) s) := by
    rintro ⟨x1, x2, μ⟩
    show FrS [11, 13, 14, 17, 27, 28, 8] μ (fun s : Int32 × Int32 × Mm => s.2.2) (fun r : Int32 × Mm => r.2) (bd_X11_swings_24  x1 x2 μ)
    unfold bd_X11_swings_24
    refine FrS.ite ?_ ?_
    · exact FrS.inr Fr.rfl
    · refine lt_ (P := fun z => FrS [11, 13, 14, 17, 27, 28, 8] μ (fun s : Int32 × Int32 × Mm => s.2.2) (fun r : Int32 × Mm => r.2) z) ((e_X1_pass 8 15 μ)) (fun μ3 : Mm => (if (v_X11_direction (v_X1_moment 8 μ3)) = x1 then .inl (x1, (x2 + 1), μ3) else (let μ6 : Mm := (e_X10_begin  μ3); (let μ8 : Mm := (e_X10_add (Int32.toInt64 (1 + (v_X11_direction (v_X1_moment 8 μ3)))) μ6); .inr (x2, μ8))))) (fun μ3 eμ3 => ?_)
      have fμ3 : Fr [11, 13, 14, 17, 27, 28, 8] μ μ3 := by
        rw [eμ3]
        exact Fr.call Fr.rfl (fr_X1_pass 8 15 μ) (by simp)
      refine FrS.ite ?_ ?_
      · exact FrS.inl fμ3
      · refine lt_ (P := fun z => FrS [11, 13, 14, 17, 27, 28, 8] μ (fun s : Int32 × Int32 × Mm => s.2.2) (fun r : Int32 × Mm => r.2) z) ((e_X10_begin  μ3)) (fun μ6 : Mm => (let μ8 : Mm := (e_X10_add (Int32.toInt64 (1 + (v_X11_direction (v_X1_moment 8 μ3)))) μ6); .inr (x2, μ8))) (fun μ6 eμ6 => ?_)
        have fμ6 : Fr [11, 13, 14, 17, 27, 28, 8] μ μ6 := by
          rw [eμ6]
          exact Fr.call fμ3 (fr_X10_begin μ3) (by simp)
        refine lt_ (P := fun z => FrS [11, 13, 14, 17, 27, 28, 8] μ (fun s : Int32 × Int32 × Mm => s.2.2) (fun r : Int32 × Mm => r.2) z) ((e_X10_add (Int32.toInt64 (1 + (v_X11_direction (v_X1_moment 8 μ3)))) μ6)) (fun μ8 : Mm => .inr (x2, μ8)) (fun μ8 eμ8 => ?_)
        have fμ8 : Fr [11, 13, 14, 17, 27, 28, 8] μ μ8 := by
          rw [eμ8]
          exact Fr.call fμ6 (fr_X10_add (Int32.toInt64 (1 + (v_X11_direction (v_X1_moment 8 μ3)))) μ6) (by simp)
        exact FrS.inr fμ8
  exact Fr_whlK (S := [11, 13, 14, 17, 27, 28, 8]) (f := (fun s : Int32 × Int32 × Mm => bd_X11_swings_24  s.1 s.2.1 s.2.2)) (dd := (fun s : Int32 × Int32 × Mm => (0, s.2.2))) (fun s : Int32 × Int32 × Mm => s.2.2) (fun r : Int32 × Mm => r.2) (fun _ => rfl) key FU s
set_option maxRecDepth 20000 in
set_option maxHeartbeats 400000 in
theorem fr_X11_swings  (μ : Mm) : Fr [10, 11, 12, 13, 14, 17, 27, 28, 8, 9] μ (e_X11_swings  μ) := by
  unfold e_X11_swings
  refine lt_ (P := fun z => Fr [10, 11, 12, 13, 14, 17, 27, 28, 8, 9] μ z) ((e_X1_become 8 1 μ)) (fun μ2 : Mm => (whl (fun s : Int32 × Int32 × Mm => bd_X11_swings_24  s.1 s.2.1 s.2.2) (fun s : Int32 × Int32 × Mm => (0, s.2.2)) FU ((v_X11_direction (v_X1_moment 8 μ2)), 1, μ2)).2) (fun μ2 eμ2 => ?_)
  have fμ2 : Fr [10, 11, 12, 13, 14, 17, 27, 28, 8, 9] μ μ2 := by
    rw [eμ2]
    exact Fr.call Fr.rfl (fr_X1_become 8 1 μ) (by simp)
  exact Fr.call fμ2 (fw_X11_swings_24  _) (by simp)
set_option maxRecDepth 20000 in
set_option maxHeartbeats 400000 in
theorem fw_X11_wall_23  (s : Int32 × Mm) : Fr [34] (s.2) ((whl (fun s : Int32 × Mm => bd_X11_wall_23  s.1 s.2) (fun s : Int32 × Mm => s.2) FU s)) := by
  have key : ∀ s : Int32 × Mm, FrS [34] (s.2) (fun s : Int32 × Mm => s.2) (fun r : Mm => r) ((fun s : Int32 × Mm => bd_X11_wall_23  s.1 s.2) s) := by
    rintro ⟨x1, μ⟩
    show FrS [34] μ (fun s : Int32 × Mm => s.2) (fun r : Mm => r) (bd_X11_wall_23  x1 μ)
    unfold bd_X11_wall_23
    refine FrS.ite ?_ ?_
    · exact FrS.inr Fr.rfl
    · refine lt_ (P := fun z => FrS [34] μ (fun s : Int32 × Mm => s.2) (fun r : Mm => r) z) ((upI μ 34 (Int32.toNatClampNeg x1) ((v_X1_load 1 x1 μ) * (9 - (μ.1 4 (Int32.toNatClampNeg x1)))))) (fun μ5 : Mm => .inl ((x1 + 1), μ5)) (fun μ5 eμ5 => ?_)
      have fμ5 : Fr [34] μ μ5 := by
        rw [eμ5]
        exact Fr.up Fr.rfl (by simp)
      exact FrS.inl fμ5
  exact Fr_whlK (S := [34]) (f := (fun s : Int32 × Mm => bd_X11_wall_23  s.1 s.2)) (dd := (fun s : Int32 × Mm => s.2)) (fun s : Int32 × Mm => s.2) (fun r : Mm => r) (fun _ => rfl) key FU s
set_option maxRecDepth 20000 in
set_option maxHeartbeats 400000 in
theorem fr_X11_wall  (μ : Mm) : Fr [27, 28, 33, 34] μ (e_X11_wall  μ) := by
  unfold e_X11_wall
  refine lt_ (P := fun z => Fr [27, 28, 33, 34] μ z) ((e_X8_start (v_X1_present 1 μ) (v_X1_moment 1 μ) μ)) (fun μ2 : Mm => (let r4 : Mm := whl (fun s : Int32 × Mm => bd_X11_wall_23  s.1 s.2) (fun s : Int32 × Mm => s.2) FU (0, μ2); (let μ6 : Mm := (e_X11_tellFewest 0 r4); μ6))) (fun μ2 eμ2 => ?_)
  have fμ2 : Fr [27, 28, 33, 34] μ μ2 := by
    rw [eμ2]
    exact Fr.call Fr.rfl (fr_X8_start (v_X1_present 1 μ) (v_X1_moment 1 μ) μ) (by simp)
  refine lt_ (P := fun z => Fr [27, 28, 33, 34] μ z) (whl (fun s : Int32 × Mm => bd_X11_wall_23  s.1 s.2) (fun s : Int32 × Mm => s.2) FU (0, μ2)) (fun r4 : Mm => (let μ6 : Mm := (e_X11_tellFewest 0 r4); μ6)) (fun r4 er4 => ?_)
  have fr4 : Fr [27, 28, 33, 34] μ r4 := by
    rw [er4]
    exact Fr.call fμ2 (fw_X11_wall_23  _) (by simp)
  refine lt_ (P := fun z => Fr [27, 28, 33, 34] μ z) ((e_X11_tellFewest 0 r4)) (fun μ6 : Mm => μ6) (fun μ6 eμ6 => ?_)
  have fμ6 : Fr [27, 28, 33, 34] μ μ6 := by
    rw [eμ6]
    exact Fr.call fr4 (fr_X11_tellFewest 0 r4) (by simp)
  exact fμ6
set_option maxRecDepth 20000 in
set_option maxHeartbeats 400000 in
theorem fw_X12_bears_21  (s : Int32 × Int32 × Mm) : Fr [49, 50, 53] (s.2.2) ((whl (fun s : Int32 × Int32 × Mm => bd_X12_bears_21  s.1 s.2.1 s.2.2) (fun s : Int32 × Int32 × Mm => (0, s.2.2)) FU s).2) := by
  have key : ∀ s : Int32 × Int32 × Mm, FrS [49, 50, 53] (s.2.2) (fun s : Int32 × Int32 × Mm => s.2.2) (fun r : Int32 × Mm => r.2) ((fun s : Int32 × Int32 × Mm => bd_X12_bears_21  s.1 s.2.1 s.2.2) s) := by
    rintro ⟨x1, x2, μ⟩
    show FrS [49, 50, 53] μ (fun s : Int32 × Int32 × Mm => s.2.2) (fun r : Int32 × Mm => r.2) (bd_X12_bears_21  x1 x2 μ)
    unfold bd_X12_bears_21
    refine FrS.ite ?_ ?_
    · exact FrS.inr Fr.rfl
    · refine lt_ (P := fun z => FrS [49, 50, 53] μ (fun s : Int32 × Int32 × Mm => s.2.2) (fun r : Int32 × Mm => r.2) z) ((upI μ 53 (Int32.toNatClampNeg (14 + x1)) x2)) (fun μ3 : Mm => (if (v_X12_moment 53 μ3) ≤ 0 then .inl (x1, (x2 + 1), μ3) else (let μ6 : Mm := (upI μ3 49 1 0); (let μ9 : Mm := (e_X12_enters (Int32.toInt64 (2000 + (v_X12_moment 53 μ6))) μ6); .inr (x2, μ9))))) (fun μ3 eμ3 => ?_)
      have fμ3 : Fr [49, 50, 53] μ μ3 := by
        rw [eμ3]
        exact Fr.up Fr.rfl (by simp)
      refine FrS.ite ?_ ?_
      · exact FrS.inl fμ3
      · refine lt_ (P := fun z => FrS [49, 50, 53] μ (fun s : Int32 × Int32 × Mm => s.2.2) (fun r : Int32 × Mm => r.2) z) ((upI μ3 49 1 0)) (fun μ6 : Mm => (let μ9 : Mm := (e_X12_enters (Int32.toInt64 (2000 + (v_X12_moment 53 μ6))) μ6); .inr (x2, μ9))) (fun μ6 eμ6 => ?_)
        have fμ6 : Fr [49, 50, 53] μ μ6 := by
          rw [eμ6]
          exact Fr.up fμ3 (by simp)
        refine lt_ (P := fun z => FrS [49, 50, 53] μ (fun s : Int32 × Int32 × Mm => s.2.2) (fun r : Int32 × Mm => r.2) z) ((e_X12_enters (Int32.toInt64 (2000 + (v_X12_moment 53 μ6))) μ6)) (fun μ9 : Mm => .inr (x2, μ9)) (fun μ9 eμ9 => ?_)
        have fμ9 : Fr [49, 50, 53] μ μ9 := by
          rw [eμ9]
          exact Fr.call fμ6 (fr_X12_enters (Int32.toInt64 (2000 + (v_X12_moment 53 μ6))) μ6) (by simp)
        exact FrS.inr fμ9
  exact Fr_whlK (S := [49, 50, 53]) (f := (fun s : Int32 × Int32 × Mm => bd_X12_bears_21  s.1 s.2.1 s.2.2)) (dd := (fun s : Int32 × Int32 × Mm => (0, s.2.2))) (fun s : Int32 × Int32 × Mm => s.2.2) (fun r : Int32 × Mm => r.2) (fun _ => rfl) key FU s
set_option maxRecDepth 20000 in
set_option maxHeartbeats 400000 in
theorem fr_X12_bears (p0 : Int32) (μ : Mm) : Fr [49, 50, 53] μ (e_X12_bears p0 μ) := by
  unfold e_X12_bears
  refine lt_ (P := fun z => Fr [49, 50, 53] μ z) ((upI μ 49 0 0)) (fun μ1 : Mm => (if (v_X12_isOne p0 μ1) = 0 then μ1 else (let μ4 : Mm := (e_X12_copies  μ1); (whl (fun s : Int32 × Int32 × Mm => bd_X12_bears_21  s.1 s.2.1 s.2.2) (fun s : Int32 × Int32 × Mm => (0, s.2.2)) FU (p0, 0, μ4)).2))) (fun μ1 eμ1 => ?_)
  have fμ1 : Fr [49, 50, 53] μ μ1 := by
    rw [eμ1]
    exact Fr.up Fr.rfl (by simp)
  refine Fr.ite ?_ ?_
  · exact fμ1
  · refine lt_ (P := fun z => Fr [49, 50, 53] μ z) ((e_X12_copies  μ1)) (fun μ4 : Mm => (whl (fun s : Int32 × Int32 × Mm => bd_X12_bears_21  s.1 s.2.1 s.2.2) (fun s : Int32 × Int32 × Mm => (0, s.2.2)) FU (p0, 0, μ4)).2) (fun μ4 eμ4 => ?_)
    have fμ4 : Fr [49, 50, 53] μ μ4 := by
      rw [eμ4]
      exact Fr.call fμ1 (fr_X12_copies μ1) (by simp)
    exact Fr.call fμ4 (fw_X12_bears_21  _) (by simp)
set_option maxRecDepth 20000 in
set_option maxHeartbeats 400000 in
theorem fr_X12_clears  (μ : Mm) : Fr [49, 50] μ (e_X12_clears  μ) := by
  unfold e_X12_clears
  refine lt_ (P := fun z => Fr [49, 50] μ z) ((upI μ 49 0 0)) (fun μ1 : Mm => (let r3 : Int32 := whl (fun s : Int32 × Int32 => bd_X12_clears_9  μ1 s.1 s.2) (fun _ : Int32 × Int32 => 0) FU ((-1), 0); (let μ5 : Mm := (e_X12_entersFewest r3 μ1); μ5))) (fun μ1 eμ1 => ?_)
  have fμ1 : Fr [49, 50] μ μ1 := by
    rw [eμ1]
    exact Fr.up Fr.rfl (by simp)
  refine lt_ (P := fun z => Fr [49, 50] μ z) (whl (fun s : Int32 × Int32 => bd_X12_clears_9  μ1 s.1 s.2) (fun _ : Int32 × Int32 => 0) FU ((-1), 0)) (fun r3 : Int32 => (let μ5 : Mm := (e_X12_entersFewest r3 μ1); μ5)) (fun r3 er3 => ?_)
  refine lt_ (P := fun z => Fr [49, 50] μ z) ((e_X12_entersFewest r3 μ1)) (fun μ5 : Mm => μ5) (fun μ5 eμ5 => ?_)
  have fμ5 : Fr [49, 50] μ μ5 := by
    rw [eμ5]
    exact Fr.call fμ1 (fr_X12_entersFewest r3 μ1) (by simp)
  exact fμ5
set_option maxRecDepth 20000 in
set_option maxHeartbeats 400000 in
theorem fr_X12_count (p0 : Int32) (μ : Mm) : Fr [49] μ (e_X12_count p0 μ) := by
  unfold e_X12_count
  refine lt_ (P := fun z => Fr [49] μ z) ((upI μ 49 0 0)) (fun μ1 : Mm => μ1) (fun μ1 eμ1 => ?_)
  have fμ1 : Fr [49] μ μ1 := by
    rw [eμ1]
    exact Fr.up Fr.rfl (by simp)
  exact fμ1
set_option maxRecDepth 20000 in
set_option maxHeartbeats 400000 in
theorem fw_X12_minuteGoes_65 (p0 : Nat) (s : Int32 × Int32 × Mm) : Fr [p0] (s.2.2) ((whl (fun s : Int32 × Int32 × Mm => bd_X12_minuteGoes_65 p0 s.1 s.2.1 s.2.2) (fun s : Int32 × Int32 × Mm => (0, s.2.2)) FU s).2) := by
  have key : ∀ s : Int32 × Int32 × Mm, FrS [p0] (s.2.2) (fun s : Int32 × Int32 × Mm => s.2.2) (fun r : Int32 × Mm => r.2) ((fun s : Int32 × Int32 × Mm => bd_X12_minuteGoes_65 p0 s.1 s.2.1 s.2.2) s) := by
    rintro ⟨x3, x4, μ⟩
    show FrS [p0] μ (fun s : Int32 × Int32 × Mm => s.2.2) (fun r : Int32 × Mm => r.2) (bd_X12_minuteGoes_65 p0 x3 x4 μ)
    unfold bd_X12_minuteGoes_65
    refine FrS.ite ?_ ?_
    · exact FrS.inr Fr.rfl
    · refine lt_ (P := fun z => FrS [p0] μ (fun s : Int32 × Int32 × Mm => s.2.2) (fun r : Int32 × Mm => r.2) z) ((upI μ p0 (Int32.toNatClampNeg (7 + x4)) ((μ.1 p0 (Int32.toNatClampNeg (7 + x4))) + (μ.1 62 (Int32.toNatClampNeg x4))))) (fun μ5 : Mm => .inl (x3, (x4 + 1), μ5)) (fun μ5 eμ5 => ?_)
      have fμ5 : Fr [p0] μ μ5 := by
        rw [eμ5]
        exact Fr.up Fr.rfl (by simp)
      exact FrS.inl fμ5
  exact Fr_whlK (S := [p0]) (f := (fun s : Int32 × Int32 × Mm => bd_X12_minuteGoes_65 p0 s.1 s.2.1 s.2.2)) (dd := (fun s : Int32 × Int32 × Mm => (0, s.2.2))) (fun s : Int32 × Int32 × Mm => s.2.2) (fun r : Int32 × Mm => r.2) (fun _ => rfl) key FU s
set_option maxRecDepth 20000 in
set_option maxHeartbeats 400000 in
theorem fw_X12_minuteGoes_11 (p0 : Nat) (s : Int32 × Int32 × Int32 × Mm) : Fr [59, 60, 62] (s.2.2.2) ((whl (fun s : Int32 × Int32 × Int32 × Mm => bd_X12_minuteGoes_11 p0 s.1 s.2.1 s.2.2.1 s.2.2.2) (fun s : Int32 × Int32 × Int32 × Mm => (0, s.2.2.2)) FU s).2) := by
  have key : ∀ s : Int32 × Int32 × Int32 × Mm, FrS [59, 60, 62] (s.2.2.2) (fun s : Int32 × Int32 × Int32 × Mm => s.2.2.2) (fun r : Int32 × Mm => r.2) ((fun s : Int32 × Int32 × Int32 × Mm => bd_X12_minuteGoes_11 p0 s.1 s.2.1 s.2.2.1 s.2.2.2) s) := by
    rintro ⟨x2, x3, x4, μ⟩
    show FrS [59, 60, 62] μ (fun s : Int32 × Int32 × Int32 × Mm => s.2.2.2) (fun r : Int32 × Mm => r.2) (bd_X12_minuteGoes_11 p0 x2 x3 x4 μ)
    unfold bd_X12_minuteGoes_11
    refine FrS.ite ?_ ?_
    · exact FrS.inr Fr.rfl
    · refine lt_ (P := fun z => FrS [59, 60, 62] μ (fun s : Int32 × Int32 × Int32 × Mm => s.2.2.2) (fun r : Int32 × Mm => r.2) z) ((e_X12_walksTo p0 x4 x2 μ)) (fun μ3 : Mm => (let μ5 : Mm := (upI μ3 62 (Int32.toNatClampNeg x4) (v_X12_walksTo p0 x4 x2 μ)); .inl (x2, (x3 + (v_X12_flag (if (μ5.1 62 (Int32.toNatClampNeg x4)) = 0 then 0 else 1 : Int32))), (x4 + 1), μ5))) (fun μ3 eμ3 => ?_)
      have fμ3 : Fr [59, 60, 62] μ μ3 := by
        rw [eμ3]
        exact Fr.call Fr.rfl (fr_X12_walksTo p0 x4 x2 μ) (by simp)
      refine lt_ (P := fun z => FrS [59, 60, 62] μ (fun s : Int32 × Int32 × Int32 × Mm => s.2.2.2) (fun r : Int32 × Mm => r.2) z) ((upI μ3 62 (Int32.toNatClampNeg x4) (v_X12_walksTo p0 x4 x2 μ))) (fun μ5 : Mm => .inl (x2, (x3 + (v_X12_flag (if (μ5.1 62 (Int32.toNatClampNeg x4)) = 0 then 0 else 1 : Int32))), (x4 + 1), μ5)) (fun μ5 eμ5 => ?_)
      have fμ5 : Fr [59, 60, 62] μ μ5 := by
        rw [eμ5]
        exact Fr.up fμ3 (by simp)
      exact FrS.inl fμ5
  exact Fr_whlK (S := [59, 60, 62]) (f := (fun s : Int32 × Int32 × Int32 × Mm => bd_X12_minuteGoes_11 p0 s.1 s.2.1 s.2.2.1 s.2.2.2)) (dd := (fun s : Int32 × Int32 × Int32 × Mm => (0, s.2.2.2))) (fun s : Int32 × Int32 × Int32 × Mm => s.2.2.2) (fun r : Int32 × Mm => r.2) (fun _ => rfl) key FU s
set_option maxRecDepth 20000 in
set_option maxHeartbeats 400000 in
theorem fr_X12_minuteGoes (p0 : Nat) (μ : Mm) : Fr [59, 60, 62, p0] μ (e_X12_minuteGoes p0 μ) := by
  unfold e_X12_minuteGoes
  refine lt_ (P := fun z => Fr [59, 60, 62, p0] μ z) (whl (fun s : Int32 × Int32 × Int32 × Mm => bd_X12_minuteGoes_11 p0 s.1 s.2.1 s.2.2.1 s.2.2.2) (fun s : Int32 × Int32 × Int32 × Mm => (0, s.2.2.2)) FU ((v_X12_moment p0 μ), 0, 0, μ)) (fun r3 : Int32 × Mm => (let r5 : Int32 × Mm := whl (fun s : Int32 × Int32 × Mm => bd_X12_minuteGoes_65 p0 s.1 s.2.1 s.2.2) (fun s : Int32 × Int32 × Mm => (0, s.2.2)) FU ((r3.1), 0, (r3.2)); (let μ6 : Mm := (upI (r5.2) p0 (Int32.toNatClampNeg 22) (((r5.2).1 p0 (Int32.toNatClampNeg 22)) + 1)); μ6))) (fun r3 er3 => ?_)
  have fr3 : Fr [59, 60, 62, p0] μ (r3.2) := by
    rw [er3]
    exact Fr.call Fr.rfl (fw_X12_minuteGoes_11 p0 _) (by simp)
  refine lt_ (P := fun z => Fr [59, 60, 62, p0] μ z) (whl (fun s : Int32 × Int32 × Mm => bd_X12_minuteGoes_65 p0 s.1 s.2.1 s.2.2) (fun s : Int32 × Int32 × Mm => (0, s.2.2)) FU ((r3.1), 0, (r3.2))) (fun r5 : Int32 × Mm => (let μ6 : Mm := (upI (r5.2) p0 (Int32.toNatClampNeg 22) (((r5.2).1 p0 (Int32.toNatClampNeg 22)) + 1)); μ6)) (fun r5 er5 => ?_)
  have fr5 : Fr [59, 60, 62, p0] μ (r5.2) := by
    rw [er5]
    exact Fr.call fr3 (fw_X12_minuteGoes_65 p0 _) (by simp)
  refine lt_ (P := fun z => Fr [59, 60, 62, p0] μ z) ((upI (r5.2) p0 (Int32.toNatClampNeg 22) (((r5.2).1 p0 (Int32.toNatClampNeg 22)) + 1))) (fun μ6 : Mm => μ6) (fun μ6 eμ6 => ?_)
  have fμ6 : Fr [59, 60, 62, p0] μ μ6 := by
    rw [eμ6]
    exact Fr.up fr5 (by simp)
  exact fμ6
set_option maxRecDepth 20000 in
set_option maxHeartbeats 400000 in
theorem fr_X12_one (p0 : Int32) (p1 : Int32) (μ : Mm) : Fr [49, 59, 60] μ (e_X12_one p0 p1 μ) := by
  unfold e_X12_one
  refine lt_ (P := fun z => Fr [49, 59, 60] μ z) ((upI μ 49 0 0)) (fun μ1 : Mm => (if (v_X12_isOne p0 μ1) = 0 then (let μ3 : Mm := (e_X12_refuse  μ1); μ3) else (if (v_X12_in (Int32.toInt64 p1) 0 5) = 0 then (let μ5 : Mm := (e_X12_refuse  μ1); μ5) else (if p1 = 0 then μ1 else (if p1 = 1 then μ1 else (if p1 = 2 then μ1 else (if p1 = 3 then μ1 else (if p1 = 4 then μ1 else (let μ18 : Mm := (e_X12_walksTo 52 p0 (v_X12_moment 52 μ1) μ1); μ18))))))))) (fun μ1 eμ1 => ?_)
  have fμ1 : Fr [49, 59, 60] μ μ1 := by
    rw [eμ1]
    exact Fr.up Fr.rfl (by simp)
  refine Fr.ite ?_ ?_
  · refine lt_ (P := fun z => Fr [49, 59, 60] μ z) ((e_X12_refuse  μ1)) (fun μ3 : Mm => μ3) (fun μ3 eμ3 => ?_)
    have fμ3 : Fr [49, 59, 60] μ μ3 := by
      rw [eμ3]
      exact Fr.call fμ1 (fr_X12_refuse μ1) (by simp)
    exact fμ3
  · refine Fr.ite ?_ ?_
    · refine lt_ (P := fun z => Fr [49, 59, 60] μ z) ((e_X12_refuse  μ1)) (fun μ5 : Mm => μ5) (fun μ5 eμ5 => ?_)
      have fμ5 : Fr [49, 59, 60] μ μ5 := by
        rw [eμ5]
        exact Fr.call fμ1 (fr_X12_refuse μ1) (by simp)
      exact fμ5
    · refine Fr.ite ?_ ?_
      · exact fμ1
      · refine Fr.ite ?_ ?_
        · exact fμ1
        · refine Fr.ite ?_ ?_
          · exact fμ1
          · refine Fr.ite ?_ ?_
            · exact fμ1
            · refine Fr.ite ?_ ?_
              · exact fμ1
              · refine lt_ (P := fun z => Fr [49, 59, 60] μ z) ((e_X12_walksTo 52 p0 (v_X12_moment 52 μ1) μ1)) (fun μ18 : Mm => μ18) (fun μ18 eμ18 => ?_)
                have fμ18 : Fr [49, 59, 60] μ μ18 := by
                  rw [eμ18]
                  exact Fr.call fμ1 (fr_X12_walksTo 52 p0 (v_X12_moment 52 μ1) μ1) (by simp)
                exact fμ18
set_option maxRecDepth 20000 in
set_option maxHeartbeats 400000 in
theorem fw_X12_takesOf_2 (p0 : Nat) (s : Int32 × Mm) : Fr [49] (s.2) ((whl (fun s : Int32 × Mm => bd_X12_takesOf_2 p0 s.1 s.2) (fun s : Int32 × Mm => (0, s.2)) FU s).2) := by
  have key : ∀ s : Int32 × Mm, FrS [49] (s.2) (fun s : Int32 × Mm => s.2) (fun r : Int32 × Mm => r.2) ((fun s : Int32 × Mm => bd_X12_takesOf_2 p0 s.1 s.2) s) := by
    rintro ⟨x2, μ⟩
    show FrS [49] μ (fun s : Int32 × Mm => s.2) (fun r : Int32 × Mm => r.2) (bd_X12_takesOf_2 p0 x2 μ)
    unfold bd_X12_takesOf_2
    refine FrS.ite ?_ ?_
    · exact FrS.inr Fr.rfl
    · refine FrS.ite ?_ ?_
      · exact FrS.inr Fr.rfl
      · refine FrS.ite ?_ ?_
        · refine lt_ (P := fun z => FrS [49] μ (fun s : Int32 × Mm => s.2) (fun r : Int32 × Mm => r.2) z) ((upI μ 49 10 ((μ.1 49 10) + 1))) (fun μ6 : Mm => .inr (x2, μ6)) (fun μ6 eμ6 => ?_)
          have fμ6 : Fr [49] μ μ6 := by
            rw [eμ6]
            exact Fr.up Fr.rfl (by simp)
          exact FrS.inr fμ6
        · exact FrS.inl Fr.rfl
  exact Fr_whlK (S := [49]) (f := (fun s : Int32 × Mm => bd_X12_takesOf_2 p0 s.1 s.2)) (dd := (fun s : Int32 × Mm => (0, s.2))) (fun s : Int32 × Mm => s.2) (fun r : Int32 × Mm => r.2) (fun _ => rfl) key FU s
set_option maxRecDepth 20000 in
set_option maxHeartbeats 400000 in
theorem fr_X12_takesOf (p0 : Nat) (μ : Mm) : Fr [49] μ (e_X12_takesOf p0 μ) := by
  unfold e_X12_takesOf
  exact Fr.call Fr.rfl (fw_X12_takesOf_2 p0 _) (by simp)
set_option maxRecDepth 20000 in
set_option maxHeartbeats 400000 in
theorem fr_X12_tips  (μ : Mm) : Fr [49, 50] μ (e_X12_tips  μ) := by
  unfold e_X12_tips
  refine lt_ (P := fun z => Fr [49, 50] μ z) ((upI μ 49 0 0)) (fun μ1 : Mm => (let r3 : Int32 × Int32 := whl (fun s : Int32 × Int32 × Int32 => bd_X12_tips_11  μ1 s.1 s.2.1 s.2.2) (fun _ : Int32 × Int32 × Int32 => (0, 0)) FU (0, 0, 0); (let μ4 : Mm := (upI μ1 49 1 0); (let μ7 : Mm := (e_X12_enters (Int32.toInt64 (v_X12_momentOf 52 (r3.1) μ4)) μ4); (let μ10 : Mm := (e_X12_enters (Int32.toInt64 (-(v_X12_momentOf 52 (r3.2) μ7))) μ7); (let μ14 : Mm := (e_X12_enters (Int32.toInt64 (v_X12_loadOf 52 (v_X12_standingOn 52 0 μ10) μ10)) μ10); μ14)))))) (fun μ1 eμ1 => ?_)
  have fμ1 : Fr [49, 50] μ μ1 := by
    rw [eμ1]
    exact Fr.up Fr.rfl (by simp)
  refine lt_ (P := fun z => Fr [49, 50] μ z) (whl (fun s : Int32 × Int32 × Int32 => bd_X12_tips_11  μ1 s.1 s.2.1 s.2.2) (fun _ : Int32 × Int32 × Int32 => (0, 0)) FU (0, 0, 0)) (fun r3 : Int32 × Int32 => (let μ4 : Mm := (upI μ1 49 1 0); (let μ7 : Mm := (e_X12_enters (Int32.toInt64 (v_X12_momentOf 52 (r3.1) μ4)) μ4); (let μ10 : Mm := (e_X12_enters (Int32.toInt64 (-(v_X12_momentOf 52 (r3.2) μ7))) μ7); (let μ14 : Mm := (e_X12_enters (Int32.toInt64 (v_X12_loadOf 52 (v_X12_standingOn 52 0 μ10) μ10)) μ10); μ14))))) (fun r3 er3 => ?_)
  refine lt_ (P := fun z => Fr [49, 50] μ z) ((upI μ1 49 1 0)) (fun μ4 : Mm => (let μ7 : Mm := (e_X12_enters (Int32.toInt64 (v_X12_momentOf 52 (r3.1) μ4)) μ4); (let μ10 : Mm := (e_X12_enters (Int32.toInt64 (-(v_X12_momentOf 52 (r3.2) μ7))) μ7); (let μ14 : Mm := (e_X12_enters (Int32.toInt64 (v_X12_loadOf 52 (v_X12_standingOn 52 0 μ10) μ10)) μ10); μ14)))) (fun μ4 eμ4 => ?_)
  have fμ4 : Fr [49, 50] μ μ4 := by
    rw [eμ4]
    exact Fr.up fμ1 (by simp)
  refine lt_ (P := fun z => Fr [49, 50] μ z) ((e_X12_enters (Int32.toInt64 (v_X12_momentOf 52 (r3.1) μ4)) μ4)) (fun μ7 : Mm => (let μ10 : Mm := (e_X12_enters (Int32.toInt64 (-(v_X12_momentOf 52 (r3.2) μ7))) μ7); (let μ14 : Mm := (e_X12_enters (Int32.toInt64 (v_X12_loadOf 52 (v_X12_standingOn 52 0 μ10) μ10)) μ10); μ14))) (fun μ7 eμ7 => ?_)
  have fμ7 : Fr [49, 50] μ μ7 := by
    rw [eμ7]
    exact Fr.call fμ4 (fr_X12_enters (Int32.toInt64 (v_X12_momentOf 52 (r3.1) μ4)) μ4) (by simp)
  refine lt_ (P := fun z => Fr [49, 50] μ z) ((e_X12_enters (Int32.toInt64 (-(v_X12_momentOf 52 (r3.2) μ7))) μ7)) (fun μ10 : Mm => (let μ14 : Mm := (e_X12_enters (Int32.toInt64 (v_X12_loadOf 52 (v_X12_standingOn 52 0 μ10) μ10)) μ10); μ14)) (fun μ10 eμ10 => ?_)
  have fμ10 : Fr [49, 50] μ μ10 := by
    rw [eμ10]
    exact Fr.call fμ7 (fr_X12_enters (Int32.toInt64 (-(v_X12_momentOf 52 (r3.2) μ7))) μ7) (by simp)
  refine lt_ (P := fun z => Fr [49, 50] μ z) ((e_X12_enters (Int32.toInt64 (v_X12_loadOf 52 (v_X12_standingOn 52 0 μ10) μ10)) μ10)) (fun μ14 : Mm => μ14) (fun μ14 eμ14 => ?_)
  have fμ14 : Fr [49, 50] μ μ14 := by
    rw [eμ14]
    exact Fr.call fμ10 (fr_X12_enters (Int32.toInt64 (v_X12_loadOf 52 (v_X12_standingOn 52 0 μ10) μ10)) μ10) (by simp)
  exact fμ14
set_option maxRecDepth 20000 in
set_option maxHeartbeats 400000 in
theorem fw_X12_walks_96  (s : Int32 × Int32 × Int32 × Int32 × Int32 × Mm) : Fr [49, 50] (s.2.2.2.2.2) ((whl (fun s : Int32 × Int32 × Int32 × Int32 × Int32 × Mm => bd_X12_walks_96  s.1 s.2.1 s.2.2.1 s.2.2.2.1 s.2.2.2.2.1 s.2.2.2.2.2) (fun s : Int32 × Int32 × Int32 × Int32 × Int32 × Mm => (0, s.2.2.2.2.2)) FU s).2) := by
  have key : ∀ s : Int32 × Int32 × Int32 × Int32 × Int32 × Mm, FrS [49, 50] (s.2.2.2.2.2) (fun s : Int32 × Int32 × Int32 × Int32 × Int32 × Mm => s.2.2.2.2.2) (fun r : Int32 × Mm => r.2) ((fun s : Int32 × Int32 × Int32 × Int32 × Int32 × Mm => bd_X12_walks_96  s.1 s.2.1 s.2.2.1 s.2.2.2.1 s.2.2.2.2.1 s.2.2.2.2.2) s) := by
    rintro ⟨x1, x2, x3, x4, x5, μ⟩
    show FrS [49, 50] μ (fun s : Int32 × Int32 × Int32 × Int32 × Int32 × Mm => s.2.2.2.2.2) (fun r : Int32 × Mm => r.2) (bd_X12_walks_96  x1 x2 x3 x4 x5 μ)
    unfold bd_X12_walks_96
    refine FrS.ite ?_ ?_
    · exact FrS.inr Fr.rfl
    · refine lt_ (P := fun z => FrS [49, 50] μ (fun s : Int32 × Int32 × Int32 × Int32 × Int32 × Mm => s.2.2.2.2.2) (fun r : Int32 × Mm => r.2) z) (whl (fun s : Int32 × Int32 × Int32 × Int32 × Int32 × Int32 => bd_X12_walks_119  μ s.1 s.2.1 s.2.2.1 s.2.2.2.1 s.2.2.2.2.1 s.2.2.2.2.2) (fun _ : Int32 × Int32 × Int32 × Int32 × Int32 × Int32 => (0, 0, 0, 0, 0, 0)) FU (x1, x2, x3, x4, x5, (if (v_X12_room x1 x5 μ) < x4 then (v_X12_room x1 x5 μ) else x4))) (fun r4 : Int32 × Int32 × Int32 × Int32 × Int32 × Int32 => (let μ6 : Mm := (e_X12_enters (Int32.toInt64 (r4.2.2.2.2.2)) μ); .inl ((r4.1), ((r4.2.1) + ((r4.2.2.2.2.2) * (v_X12_load 52 (r4.2.2.2.2.1) μ6))), (r4.2.2.1), ((r4.2.2.2.1) - (r4.2.2.2.2.2)), ((r4.2.2.2.2.1) + 1), μ6))) (fun r4 er4 => ?_)
      refine lt_ (P := fun z => FrS [49, 50] μ (fun s : Int32 × Int32 × Int32 × Int32 × Int32 × Mm => s.2.2.2.2.2) (fun r : Int32 × Mm => r.2) z) ((e_X12_enters (Int32.toInt64 (r4.2.2.2.2.2)) μ)) (fun μ6 : Mm => .inl ((r4.1), ((r4.2.1) + ((r4.2.2.2.2.2) * (v_X12_load 52 (r4.2.2.2.2.1) μ6))), (r4.2.2.1), ((r4.2.2.2.1) - (r4.2.2.2.2.2)), ((r4.2.2.2.2.1) + 1), μ6)) (fun μ6 eμ6 => ?_)
      have fμ6 : Fr [49, 50] μ μ6 := by
        rw [eμ6]
        exact Fr.call Fr.rfl (fr_X12_enters (Int32.toInt64 (r4.2.2.2.2.2)) μ) (by simp)
      exact FrS.inl fμ6
  exact Fr_whlK (S := [49, 50]) (f := (fun s : Int32 × Int32 × Int32 × Int32 × Int32 × Mm => bd_X12_walks_96  s.1 s.2.1 s.2.2.1 s.2.2.2.1 s.2.2.2.2.1 s.2.2.2.2.2)) (dd := (fun s : Int32 × Int32 × Int32 × Int32 × Int32 × Mm => (0, s.2.2.2.2.2))) (fun s : Int32 × Int32 × Int32 × Int32 × Int32 × Mm => s.2.2.2.2.2) (fun r : Int32 × Mm => r.2) (fun _ => rfl) key FU s
set_option maxRecDepth 20000 in
set_option maxHeartbeats 400000 in
theorem fr_X12_wall  (μ : Mm) : Fr [49, 50] μ (e_X12_wall  μ) := by
  unfold e_X12_wall
  refine lt_ (P := fun z => Fr [49, 50] μ z) ((upI μ 49 0 0)) (fun μ1 : Mm => (let r3 : Int32 := whl (fun s : Int32 × Int32 => bd_X12_wall_9  μ1 s.1 s.2) (fun _ : Int32 × Int32 => 0) FU ((-1), 0); (let μ5 : Mm := (e_X12_entersFewest r3 μ1); μ5))) (fun μ1 eμ1 => ?_)
  have fμ1 : Fr [49, 50] μ μ1 := by
    rw [eμ1]
    exact Fr.up Fr.rfl (by simp)
  refine lt_ (P := fun z => Fr [49, 50] μ z) (whl (fun s : Int32 × Int32 => bd_X12_wall_9  μ1 s.1 s.2) (fun _ : Int32 × Int32 => 0) FU ((-1), 0)) (fun r3 : Int32 => (let μ5 : Mm := (e_X12_entersFewest r3 μ1); μ5)) (fun r3 er3 => ?_)
  refine lt_ (P := fun z => Fr [49, 50] μ z) ((e_X12_entersFewest r3 μ1)) (fun μ5 : Mm => μ5) (fun μ5 eμ5 => ?_)
  have fμ5 : Fr [49, 50] μ μ5 := by
    rw [eμ5]
    exact Fr.call fμ1 (fr_X12_entersFewest r3 μ1) (by simp)
  exact fμ5
set_option maxRecDepth 20000 in
set_option maxHeartbeats 400000 in
theorem fw_X1_go_5 (b : Nat) (p1 : Nat) (s : Int32 × Int32 × Int32 × Mm) : Fr [(b + 3), (b + 5), (b + 6), (p1 + 2), b] (s.2.2.2) ((whl (fun s : Int32 × Int32 × Int32 × Mm => bd_X1_go_5 b p1 s.1 s.2.1 s.2.2.1 s.2.2.2) (fun s : Int32 × Int32 × Int32 × Mm => (0, s.2.2.2)) FU s).2) := by
  have key : ∀ s : Int32 × Int32 × Int32 × Mm, FrS [(b + 3), (b + 5), (b + 6), (p1 + 2), b] (s.2.2.2) (fun s : Int32 × Int32 × Int32 × Mm => s.2.2.2) (fun r : Int32 × Mm => r.2) ((fun s : Int32 × Int32 × Int32 × Mm => bd_X1_go_5 b p1 s.1 s.2.1 s.2.2.1 s.2.2.2) s) := by
    rintro ⟨x1, x3, x4, μ⟩
    show FrS [(b + 3), (b + 5), (b + 6), (p1 + 2), b] μ (fun s : Int32 × Int32 × Int32 × Mm => s.2.2.2) (fun r : Int32 × Mm => r.2) (bd_X1_go_5 b p1 x1 x3 x4 μ)
    unfold bd_X1_go_5
    refine FrS.ite ?_ ?_
    · exact FrS.inr Fr.rfl
    · refine lt_ (P := fun z => FrS [(b + 3), (b + 5), (b + 6), (p1 + 2), b] μ (fun s : Int32 × Int32 × Int32 × Mm => s.2.2.2) (fun r : Int32 × Mm => r.2) z) ((e_X1_pass b p1 μ)) (fun μ3 : Mm => .inl (x1, (x3 + (v_X1_pass b p1 μ)), (x4 + 1), μ3)) (fun μ3 eμ3 => ?_)
      have fμ3 : Fr [(b + 3), (b + 5), (b + 6), (p1 + 2), b] μ μ3 := by
        rw [eμ3]
        exact Fr.call Fr.rfl (fr_X1_pass b p1 μ) (by simp)
      exact FrS.inl fμ3
  exact Fr_whlK (S := [(b + 3), (b + 5), (b + 6), (p1 + 2), b]) (f := (fun s : Int32 × Int32 × Int32 × Mm => bd_X1_go_5 b p1 s.1 s.2.1 s.2.2.1 s.2.2.2)) (dd := (fun s : Int32 × Int32 × Int32 × Mm => (0, s.2.2.2))) (fun s : Int32 × Int32 × Int32 × Mm => s.2.2.2) (fun r : Int32 × Mm => r.2) (fun _ => rfl) key FU s
set_option maxRecDepth 20000 in
set_option maxHeartbeats 400000 in
theorem fr_X1_go (b : Nat) (p0 : Int32) (p1 : Nat) (μ : Mm) : Fr [(b + 3), (b + 5), (b + 6), (p1 + 2), b] μ (e_X1_go b p0 p1 μ) := by
  unfold e_X1_go
  refine lt_ (P := fun z => Fr [(b + 3), (b + 5), (b + 6), (p1 + 2), b] μ z) (whl (fun s : Int32 × Int32 × Int32 × Mm => bd_X1_go_5 b p1 s.1 s.2.1 s.2.2.1 s.2.2.2) (fun s : Int32 × Int32 × Int32 × Mm => (0, s.2.2.2)) FU (p0, 0, 0, μ)) (fun r2 : Int32 × Mm => (r2.2)) (fun r2 er2 => ?_)
  have fr2 : Fr [(b + 3), (b + 5), (b + 6), (p1 + 2), b] μ (r2.2) := by
    rw [er2]
    exact Fr.call Fr.rfl (fw_X1_go_5 b p1 _) (by simp)
  exact fr2
set_option maxRecDepth 20000 in
set_option maxHeartbeats 400000 in
theorem fw_X1_goTillNoon_12 (b : Nat) (p0 : Nat) (s : Int32 × Int32 × Mm) : Fr [(b + 3), (b + 5), (b + 6), (p0 + 2), b] (s.2.2) ((whl (fun s : Int32 × Int32 × Mm => bd_X1_goTillNoon_12 b p0 s.1 s.2.1 s.2.2) (fun s : Int32 × Int32 × Mm => s.2.2) FU s)) := by
  have key : ∀ s : Int32 × Int32 × Mm, FrS [(b + 3), (b + 5), (b + 6), (p0 + 2), b] (s.2.2) (fun s : Int32 × Int32 × Mm => s.2.2) (fun r : Mm => r) ((fun s : Int32 × Int32 × Mm => bd_X1_goTillNoon_12 b p0 s.1 s.2.1 s.2.2) s) := by
    rintro ⟨x2, x3, μ⟩
    show FrS [(b + 3), (b + 5), (b + 6), (p0 + 2), b] μ (fun s : Int32 × Int32 × Mm => s.2.2) (fun r : Mm => r) (bd_X1_goTillNoon_12 b p0 x2 x3 μ)
    unfold bd_X1_goTillNoon_12
    refine FrS.ite ?_ ?_
    · exact FrS.inr Fr.rfl
    · refine lt_ (P := fun z => FrS [(b + 3), (b + 5), (b + 6), (p0 + 2), b] μ (fun s : Int32 × Int32 × Mm => s.2.2) (fun r : Mm => r) z) ((e_X1_pass b p0 μ)) (fun μ3 : Mm => .inl (x2, (x3 + 1), μ3)) (fun μ3 eμ3 => ?_)
      have fμ3 : Fr [(b + 3), (b + 5), (b + 6), (p0 + 2), b] μ μ3 := by
        rw [eμ3]
        exact Fr.call Fr.rfl (fr_X1_pass b p0 μ) (by simp)
      exact FrS.inl fμ3
  exact Fr_whlK (S := [(b + 3), (b + 5), (b + 6), (p0 + 2), b]) (f := (fun s : Int32 × Int32 × Mm => bd_X1_goTillNoon_12 b p0 s.1 s.2.1 s.2.2)) (dd := (fun s : Int32 × Int32 × Mm => s.2.2)) (fun s : Int32 × Int32 × Mm => s.2.2) (fun r : Mm => r) (fun _ => rfl) key FU s
set_option maxRecDepth 20000 in
set_option maxHeartbeats 400000 in
theorem fr_X1_goTillNoon (b : Nat) (p0 : Nat) (μ : Mm) : Fr [(b + 3), (b + 5), (b + 6), (p0 + 2), b] μ (e_X1_goTillNoon b p0 μ) := by
  unfold e_X1_goTillNoon
  refine lt_ (P := fun z => Fr [(b + 3), (b + 5), (b + 6), (p0 + 2), b] μ z) (whl (fun s : Int32 × Int32 × Mm => bd_X1_goTillNoon_12 b p0 s.1 s.2.1 s.2.2) (fun s : Int32 × Int32 × Mm => s.2.2) FU (((μ.1 b 7) - (μ.1 b 6)), 0, μ)) (fun r2 : Mm => r2) (fun r2 er2 => ?_)
  have fr2 : Fr [(b + 3), (b + 5), (b + 6), (p0 + 2), b] μ r2 := by
    rw [er2]
    exact Fr.call Fr.rfl (fw_X1_goTillNoon_12 b p0 _) (by simp)
  exact fr2
set_option maxRecDepth 20000 in
set_option maxHeartbeats 400000 in
theorem fr_X5_takeThing (b : Nat) (p0 : Int32) (μ : Mm) : Fr [(b + 1), (b + 3), (b + 4), b] μ (e_X5_takeThing b p0 μ) := by
  unfold e_X5_takeThing
  refine Fr.ite ?_ ?_
  · refine lt_ (P := fun z => Fr [(b + 1), (b + 3), (b + 4), b] μ z) ((e_X4_push (b + 3) 126 μ)) (fun μ3 : Mm => μ3) (fun μ3 eμ3 => ?_)
    have fμ3 : Fr [(b + 1), (b + 3), (b + 4), b] μ μ3 := by
      rw [eμ3]
      exact Fr.call Fr.rfl (fr_X4_push (b + 3) 126 μ) (by simp)
    exact fμ3
  · refine Fr.ite ?_ ?_
    · refine lt_ (P := fun z => Fr [(b + 1), (b + 3), (b + 4), b] μ z) ((e_X5_open b μ)) (fun μ6 : Mm => μ6) (fun μ6 eμ6 => ?_)
      have fμ6 : Fr [(b + 1), (b + 3), (b + 4), b] μ μ6 := by
        rw [eμ6]
        exact Fr.call Fr.rfl (fr_X5_open b μ) (by simp)
      exact fμ6
    · refine Fr.ite ?_ ?_
      · refine Fr.ite ?_ ?_
        · exact Fr.rfl
        · refine lt_ (P := fun z => Fr [(b + 1), (b + 3), (b + 4), b] μ z) ((e_X5_emit b ((-1) - (v_J0_indexOf_0f7a4 0 p0 μ)) μ)) (fun μ11 : Mm => (let μ16 : Mm := (upI μ11 b 2 ((μ11.1 b 2) ||| (if (v_J0_indexOf_0f7a4 0 p0 μ) = 4 then 1 else 0 : Int32))); (let μ17 : Mm := (upI μ16 b 5 0); μ17))) (fun μ11 eμ11 => ?_)
          have fμ11 : Fr [(b + 1), (b + 3), (b + 4), b] μ μ11 := by
            rw [eμ11]
            exact Fr.call Fr.rfl (fr_X5_emit b ((-1) - (v_J0_indexOf_0f7a4 0 p0 μ)) μ) (by simp)
          refine lt_ (P := fun z => Fr [(b + 1), (b + 3), (b + 4), b] μ z) ((upI μ11 b 2 ((μ11.1 b 2) ||| (if (v_J0_indexOf_0f7a4 0 p0 μ) = 4 then 1 else 0 : Int32)))) (fun μ16 : Mm => (let μ17 : Mm := (upI μ16 b 5 0); μ17)) (fun μ16 eμ16 => ?_)
          have fμ16 : Fr [(b + 1), (b + 3), (b + 4), b] μ μ16 := by
            rw [eμ16]
            exact Fr.up fμ11 (by simp)
          refine lt_ (P := fun z => Fr [(b + 1), (b + 3), (b + 4), b] μ z) ((upI μ16 b 5 0)) (fun μ17 : Mm => μ17) (fun μ17 eμ17 => ?_)
          have fμ17 : Fr [(b + 1), (b + 3), (b + 4), b] μ μ17 := by
            rw [eμ17]
            exact Fr.up fμ16 (by simp)
          exact fμ17
      · refine lt_ (P := fun z => Fr [(b + 1), (b + 3), (b + 4), b] μ z) ((e_X5_emit b (p0 - 48) μ)) (fun μ19 : Mm => (let μ20 : Mm := (upI μ19 b 8 1); (let μ21 : Mm := (upI μ20 b 5 0); μ21))) (fun μ19 eμ19 => ?_)
        have fμ19 : Fr [(b + 1), (b + 3), (b + 4), b] μ μ19 := by
          rw [eμ19]
          exact Fr.call Fr.rfl (fr_X5_emit b (p0 - 48) μ) (by simp)
        refine lt_ (P := fun z => Fr [(b + 1), (b + 3), (b + 4), b] μ z) ((upI μ19 b 8 1)) (fun μ20 : Mm => (let μ21 : Mm := (upI μ20 b 5 0); μ21)) (fun μ20 eμ20 => ?_)
        have fμ20 : Fr [(b + 1), (b + 3), (b + 4), b] μ μ20 := by
          rw [eμ20]
          exact Fr.up fμ19 (by simp)
        refine lt_ (P := fun z => Fr [(b + 1), (b + 3), (b + 4), b] μ z) ((upI μ20 b 5 0)) (fun μ21 : Mm => μ21) (fun μ21 eμ21 => ?_)
        have fμ21 : Fr [(b + 1), (b + 3), (b + 4), b] μ μ21 := by
          rw [eμ21]
          exact Fr.up fμ20 (by simp)
        exact fμ21
set_option maxRecDepth 20000 in
set_option maxHeartbeats 400000 in
theorem fr_X11_act (p0 : Int32) (μ : Mm) : Fr [1, 17, 3, 4, 5, 6, 7] μ (e_X11_act p0 μ) := by
  unfold e_X11_act
  refine Fr.ite ?_ ?_
  · refine lt_ (P := fun z => Fr [1, 17, 3, 4, 5, 6, 7] μ z) ((e_X1_lead 1 (v_X9_digit (p0 + 1) μ) (v_X9_signed (p0 + 2) 119 μ) μ)) (fun μ7 : Mm => μ7) (fun μ7 eμ7 => ?_)
    have fμ7 : Fr [1, 17, 3, 4, 5, 6, 7] μ μ7 := by
      rw [eμ7]
      exact Fr.call Fr.rfl (fr_X1_lead 1 (v_X9_digit (p0 + 1) μ) (v_X9_signed (p0 + 2) 119 μ) μ) (by simp)
    exact fμ7
  · refine Fr.ite ?_ ?_
    · exact Fr.rfl
    · refine Fr.ite ?_ ?_
      · refine lt_ (P := fun z => Fr [1, 17, 3, 4, 5, 6, 7] μ z) ((e_X1_go 1 (v_X9_digit (p0 + 1) μ) 15 μ)) (fun μ11 : Mm => μ11) (fun μ11 eμ11 => ?_)
        have fμ11 : Fr [1, 17, 3, 4, 5, 6, 7] μ μ11 := by
          rw [eμ11]
          exact Fr.call Fr.rfl (fr_X1_go 1 (v_X9_digit (p0 + 1) μ) 15 μ) (by simp)
        exact fμ11
      · refine Fr.ite ?_ ?_
        · refine lt_ (P := fun z => Fr [1, 17, 3, 4, 5, 6, 7] μ z) ((e_X1_stepOffOrOn 1 (v_X9_digit (p0 + 1) μ) μ)) (fun μ13 : Mm => μ13) (fun μ13 eμ13 => ?_)
          have fμ13 : Fr [1, 17, 3, 4, 5, 6, 7] μ μ13 := by
            rw [eμ13]
            exact Fr.call Fr.rfl (fr_X1_stepOffOrOn 1 (v_X9_digit (p0 + 1) μ) μ) (by simp)
          exact fμ13
        · refine Fr.ite ?_ ?_
          · exact Fr.rfl
          · refine Fr.ite ?_ ?_
            · exact Fr.rfl
            · refine Fr.ite ?_ ?_
              · exact Fr.rfl
              · refine Fr.ite ?_ ?_
                · refine lt_ (P := fun z => Fr [1, 17, 3, 4, 5, 6, 7] μ z) ((e_X1_burden 1 (v_X9_digit (p0 + 1) μ) (v_X9_digit (p0 + 2) μ) μ)) (fun μ20 : Mm => μ20) (fun μ20 eμ20 => ?_)
                  have fμ20 : Fr [1, 17, 3, 4, 5, 6, 7] μ μ20 := by
                    rw [eμ20]
                    exact Fr.call Fr.rfl (fr_X1_burden 1 (v_X9_digit (p0 + 1) μ) (v_X9_digit (p0 + 2) μ) μ) (by simp)
                  exact fμ20
                · refine Fr.ite ?_ ?_
                  · refine lt_ (P := fun z => Fr [1, 17, 3, 4, 5, 6, 7] μ z) ((e_X1_turn 1 (v_X9_digit (p0 + 1) μ) (v_X9_signed (p0 + 2) 45 μ) μ)) (fun μ24 : Mm => μ24) (fun μ24 eμ24 => ?_)
                    have fμ24 : Fr [1, 17, 3, 4, 5, 6, 7] μ μ24 := by
                      rw [eμ24]
                      exact Fr.call Fr.rfl (fr_X1_turn 1 (v_X9_digit (p0 + 1) μ) (v_X9_signed (p0 + 2) 45 μ) μ) (by simp)
                    exact fμ24
                  · exact Fr.rfl
set_option maxRecDepth 20000 in
set_option maxHeartbeats 400000 in
theorem fw_X11_cares_33  (s : Int32 × Int32 × Int32 × Int32 × Int32 × Int32 × Mm) : Fr [10, 11, 12, 13, 14, 17, 46, 8, 9] (s.2.2.2.2.2.2) ((whl (fun s : Int32 × Int32 × Int32 × Int32 × Int32 × Int32 × Mm => bd_X11_cares_33  s.1 s.2.1 s.2.2.1 s.2.2.2.1 s.2.2.2.2.1 s.2.2.2.2.2.1 s.2.2.2.2.2.2) (fun s : Int32 × Int32 × Int32 × Int32 × Int32 × Int32 × Mm => (0, 0, 0, s.2.2.2.2.2.2)) FU s).2.2.2) := by
  have key : ∀ s : Int32 × Int32 × Int32 × Int32 × Int32 × Int32 × Mm, FrS [10, 11, 12, 13, 14, 17, 46, 8, 9] (s.2.2.2.2.2.2) (fun s : Int32 × Int32 × Int32 × Int32 × Int32 × Int32 × Mm => s.2.2.2.2.2.2) (fun r : Int32 × Int32 × Int32 × Mm => r.2.2.2) ((fun s : Int32 × Int32 × Int32 × Int32 × Int32 × Int32 × Mm => bd_X11_cares_33  s.1 s.2.1 s.2.2.1 s.2.2.2.1 s.2.2.2.2.1 s.2.2.2.2.2.1 s.2.2.2.2.2.2) s) := by
    rintro ⟨x1, x2, x3, x4, x5, x6, μ⟩
    show FrS [10, 11, 12, 13, 14, 17, 46, 8, 9] μ (fun s : Int32 × Int32 × Int32 × Int32 × Int32 × Int32 × Mm => s.2.2.2.2.2.2) (fun r : Int32 × Int32 × Int32 × Mm => r.2.2.2) (bd_X11_cares_33  x1 x2 x3 x4 x5 x6 μ)
    unfold bd_X11_cares_33
    refine FrS.ite ?_ ?_
    · exact FrS.inr Fr.rfl
    · refine lt_ (P := fun z => FrS [10, 11, 12, 13, 14, 17, 46, 8, 9] μ (fun s : Int32 × Int32 × Int32 × Int32 × Int32 × Int32 × Mm => s.2.2.2.2.2.2) (fun r : Int32 × Int32 × Int32 × Mm => r.2.2.2) z) ((e_X11_couldWish x1 x6 x2 μ)) (fun μ3 : Mm => .inl (x1, x2, (if (v_X11_couldWish x1 x6 x2 μ) = 0 then x3 else (x3 ||| (1 <<< ((9 + x6) &&& 31))) : Int32), (if (v_X11_couldWish x1 x6 x2 μ) = 0 then x4 else (if x3 = 0 then x6 else x4 : Int32) : Int32), (if (v_X11_couldWish x1 x6 x2 μ) = 0 then x5 else x6 : Int32), (x6 + 1), μ3)) (fun μ3 eμ3 => ?_)
      have fμ3 : Fr [10, 11, 12, 13, 14, 17, 46, 8, 9] μ μ3 := by
        rw [eμ3]
        exact Fr.call Fr.rfl (fr_X11_couldWish x1 x6 x2 μ) (by simp)
      exact FrS.inl fμ3
  exact Fr_whlK (S := [10, 11, 12, 13, 14, 17, 46, 8, 9]) (f := (fun s : Int32 × Int32 × Int32 × Int32 × Int32 × Int32 × Mm => bd_X11_cares_33  s.1 s.2.1 s.2.2.1 s.2.2.2.1 s.2.2.2.2.1 s.2.2.2.2.2.1 s.2.2.2.2.2.2)) (dd := (fun s : Int32 × Int32 × Int32 × Int32 × Int32 × Int32 × Mm => (0, 0, 0, s.2.2.2.2.2.2))) (fun s : Int32 × Int32 × Int32 × Int32 × Int32 × Int32 × Mm => s.2.2.2.2.2.2) (fun r : Int32 × Int32 × Int32 × Mm => r.2.2.2) (fun _ => rfl) key FU s
set_option maxRecDepth 20000 in
set_option maxHeartbeats 400000 in
theorem fr_X11_cares (p0 : Int32) (μ : Mm) : Fr [10, 11, 12, 13, 14, 17, 27, 28, 46, 8, 9] μ (e_X11_cares p0 μ) := by
  unfold e_X11_cares
  refine Fr.ite ?_ ?_
  · exact Fr.rfl
  · refine lt_ (P := fun z => Fr [10, 11, 12, 13, 14, 17, 27, 28, 46, 8, 9] μ z) (whl (fun s : Int32 × Int32 × Int32 × Int32 × Int32 × Int32 × Mm => bd_X11_cares_33  s.1 s.2.1 s.2.2.1 s.2.2.2.1 s.2.2.2.2.1 s.2.2.2.2.2.1 s.2.2.2.2.2.2) (fun s : Int32 × Int32 × Int32 × Int32 × Int32 × Int32 × Mm => (0, 0, 0, s.2.2.2.2.2.2)) FU (p0, (v_X6_latest  μ), 0, 0, 0, (-9), μ)) (fun r4 : Int32 × Int32 × Int32 × Mm => (let μ5 : Mm := (e_X10_begin  (r4.2.2.2)); (let μ7 : Mm := (e_X10_add (Int32.toInt64 (v_J6_bitCount_0f7a4 (r4.1))) μ5); (let μ13 : Mm := (if (r4.1) = 0 then μ7 else ((e_X10_add (Int32.toInt64 (100 + (r4.2.2.1))) ((e_X10_add (Int32.toInt64 (100 + (r4.2.1))) μ7)))) : Mm); μ13)))) (fun r4 er4 => ?_)
    have fr4 : Fr [10, 11, 12, 13, 14, 17, 27, 28, 46, 8, 9] μ (r4.2.2.2) := by
      rw [er4]
      exact Fr.call Fr.rfl (fw_X11_cares_33  _) (by simp)
    refine lt_ (P := fun z => Fr [10, 11, 12, 13, 14, 17, 27, 28, 46, 8, 9] μ z) ((e_X10_begin  (r4.2.2.2))) (fun μ5 : Mm => (let μ7 : Mm := (e_X10_add (Int32.toInt64 (v_J6_bitCount_0f7a4 (r4.1))) μ5); (let μ13 : Mm := (if (r4.1) = 0 then μ7 else ((e_X10_add (Int32.toInt64 (100 + (r4.2.2.1))) ((e_X10_add (Int32.toInt64 (100 + (r4.2.1))) μ7)))) : Mm); μ13))) (fun μ5 eμ5 => ?_)
    have fμ5 : Fr [10, 11, 12, 13, 14, 17, 27, 28, 46, 8, 9] μ μ5 := by
      rw [eμ5]
      exact Fr.call fr4 (fr_X10_begin (r4.2.2.2)) (by simp)
    refine lt_ (P := fun z => Fr [10, 11, 12, 13, 14, 17, 27, 28, 46, 8, 9] μ z) ((e_X10_add (Int32.toInt64 (v_J6_bitCount_0f7a4 (r4.1))) μ5)) (fun μ7 : Mm => (let μ13 : Mm := (if (r4.1) = 0 then μ7 else ((e_X10_add (Int32.toInt64 (100 + (r4.2.2.1))) ((e_X10_add (Int32.toInt64 (100 + (r4.2.1))) μ7)))) : Mm); μ13)) (fun μ7 eμ7 => ?_)
    have fμ7 : Fr [10, 11, 12, 13, 14, 17, 27, 28, 46, 8, 9] μ μ7 := by
      rw [eμ7]
      exact Fr.call fμ5 (fr_X10_add (Int32.toInt64 (v_J6_bitCount_0f7a4 (r4.1))) μ5) (by simp)
    refine lt_ (P := fun z => Fr [10, 11, 12, 13, 14, 17, 27, 28, 46, 8, 9] μ z) ((if (r4.1) = 0 then μ7 else ((e_X10_add (Int32.toInt64 (100 + (r4.2.2.1))) ((e_X10_add (Int32.toInt64 (100 + (r4.2.1))) μ7)))) : Mm)) (fun μ13 : Mm => μ13) (fun μ13 eμ13 => ?_)
    have fμ13 : Fr [10, 11, 12, 13, 14, 17, 27, 28, 46, 8, 9] μ μ13 := by
      rw [eμ13]
      repeat' (first | with_reducible assumption | with_reducible exact Fr.rfl | with_reducible refine Fr.ite ?_ ?_ | with_reducible refine Fr.up ?_ (by simp) | with_reducible refine Fr.upJ ?_ (by simp) | with_reducible refine Fr.call ?_ (fr_X10_add _ _) (by simp) | with_reducible refine Fr.call ?_ (fr_X10_begin _) (by simp) | with_reducible refine Fr.call ?_ (fr_X11_couldWish _ _ _ _) (by simp) | with_reducible refine Fr.call ?_ (fw_X11_cares_33  _) (by simp))
    exact fμ13
set_option maxRecDepth 20000 in
set_option maxHeartbeats 400000 in
theorem fr_X11_decides  (μ : Mm) : Fr [10, 11, 12, 13, 14, 17, 27, 28, 8, 9] μ (e_X11_decides  μ) := by
  unfold e_X11_decides
  refine lt_ (P := fun z => Fr [10, 11, 12, 13, 14, 17, 27, 28, 8, 9] μ z) ((e_X1_become 8 1 μ)) (fun μ2 : Mm => (let μ4 : Mm := (e_X1_goTillNoon 8 15 μ2); (let μ5 : Mm := (e_X10_begin  μ4); (let μ7 : Mm := (e_X10_add (Int32.toInt64 (2000 + (v_X1_goTillNoon 8 15 μ2))) μ5); (let μ9 : Mm := (e_X11_tellPlacesOfTrial  μ7); μ9))))) (fun μ2 eμ2 => ?_)
  have fμ2 : Fr [10, 11, 12, 13, 14, 17, 27, 28, 8, 9] μ μ2 := by
    rw [eμ2]
    exact Fr.call Fr.rfl (fr_X1_become 8 1 μ) (by simp)
  refine lt_ (P := fun z => Fr [10, 11, 12, 13, 14, 17, 27, 28, 8, 9] μ z) ((e_X1_goTillNoon 8 15 μ2)) (fun μ4 : Mm => (let μ5 : Mm := (e_X10_begin  μ4); (let μ7 : Mm := (e_X10_add (Int32.toInt64 (2000 + (v_X1_goTillNoon 8 15 μ2))) μ5); (let μ9 : Mm := (e_X11_tellPlacesOfTrial  μ7); μ9)))) (fun μ4 eμ4 => ?_)
  have fμ4 : Fr [10, 11, 12, 13, 14, 17, 27, 28, 8, 9] μ μ4 := by
    rw [eμ4]
    exact Fr.call fμ2 (fr_X1_goTillNoon 8 15 μ2) (by simp)
  refine lt_ (P := fun z => Fr [10, 11, 12, 13, 14, 17, 27, 28, 8, 9] μ z) ((e_X10_begin  μ4)) (fun μ5 : Mm => (let μ7 : Mm := (e_X10_add (Int32.toInt64 (2000 + (v_X1_goTillNoon 8 15 μ2))) μ5); (let μ9 : Mm := (e_X11_tellPlacesOfTrial  μ7); μ9))) (fun μ5 eμ5 => ?_)
  have fμ5 : Fr [10, 11, 12, 13, 14, 17, 27, 28, 8, 9] μ μ5 := by
    rw [eμ5]
    exact Fr.call fμ4 (fr_X10_begin μ4) (by simp)
  refine lt_ (P := fun z => Fr [10, 11, 12, 13, 14, 17, 27, 28, 8, 9] μ z) ((e_X10_add (Int32.toInt64 (2000 + (v_X1_goTillNoon 8 15 μ2))) μ5)) (fun μ7 : Mm => (let μ9 : Mm := (e_X11_tellPlacesOfTrial  μ7); μ9)) (fun μ7 eμ7 => ?_)
  have fμ7 : Fr [10, 11, 12, 13, 14, 17, 27, 28, 8, 9] μ μ7 := by
    rw [eμ7]
    exact Fr.call fμ5 (fr_X10_add (Int32.toInt64 (2000 + (v_X1_goTillNoon 8 15 μ2))) μ5) (by simp)
  refine lt_ (P := fun z => Fr [10, 11, 12, 13, 14, 17, 27, 28, 8, 9] μ z) ((e_X11_tellPlacesOfTrial  μ7)) (fun μ9 : Mm => μ9) (fun μ9 eμ9 => ?_)
  have fμ9 : Fr [10, 11, 12, 13, 14, 17, 27, 28, 8, 9] μ μ9 := by
    rw [eμ9]
    exact Fr.call fμ7 (fr_X11_tellPlacesOfTrial μ7) (by simp)
  exact fμ9
set_option maxRecDepth 20000 in
set_option maxHeartbeats 400000 in
theorem fw_X11_gatherCrowds_2  (s : Int32 × Int32 × Mm) : Fr [47] (s.2.2) ((whl (fun s : Int32 × Int32 × Mm => bd_X11_gatherCrowds_2  s.1 s.2.1 s.2.2) (fun s : Int32 × Int32 × Mm => (0, s.2.2)) FU s).2) := by
  have key : ∀ s : Int32 × Int32 × Mm, FrS [47] (s.2.2) (fun s : Int32 × Int32 × Mm => s.2.2) (fun r : Int32 × Mm => r.2) ((fun s : Int32 × Int32 × Mm => bd_X11_gatherCrowds_2  s.1 s.2.1 s.2.2) s) := by
    rintro ⟨x1, x2, μ⟩
    show FrS [47] μ (fun s : Int32 × Int32 × Mm => s.2.2) (fun r : Int32 × Mm => r.2) (bd_X11_gatherCrowds_2  x1 x2 μ)
    unfold bd_X11_gatherCrowds_2
    refine FrS.ite ?_ ?_
    · exact FrS.inr Fr.rfl
    · refine lt_ (P := fun z => FrS [47] μ (fun s : Int32 × Int32 × Mm => s.2.2) (fun r : Int32 × Mm => r.2) z) ((upI μ 47 (Int32.toNatClampNeg x2) 0)) (fun μ3 : Mm => .inl (x1, (x2 + 1), μ3)) (fun μ3 eμ3 => ?_)
      have fμ3 : Fr [47] μ μ3 := by
        rw [eμ3]
        exact Fr.up Fr.rfl (by simp)
      exact FrS.inl fμ3
  exact Fr_whlK (S := [47]) (f := (fun s : Int32 × Int32 × Mm => bd_X11_gatherCrowds_2  s.1 s.2.1 s.2.2)) (dd := (fun s : Int32 × Int32 × Mm => (0, s.2.2))) (fun s : Int32 × Int32 × Mm => s.2.2) (fun r : Int32 × Mm => r.2) (fun _ => rfl) key FU s
set_option maxRecDepth 20000 in
set_option maxHeartbeats 400000 in
theorem fw_X11_gatherCrowds_51  (s : Int32 × Int32 × Int32 × Int32 × Mm) : Fr [47] (s.2.2.2.2) ((whl (fun s : Int32 × Int32 × Int32 × Int32 × Mm => bd_X11_gatherCrowds_51  s.1 s.2.1 s.2.2.1 s.2.2.2.1 s.2.2.2.2) (fun s : Int32 × Int32 × Int32 × Int32 × Mm => (0, 0, 0, s.2.2.2.2)) FU s).2.2.2) := by
  have key : ∀ s : Int32 × Int32 × Int32 × Int32 × Mm, FrS [47] (s.2.2.2.2) (fun s : Int32 × Int32 × Int32 × Int32 × Mm => s.2.2.2.2) (fun r : Int32 × Int32 × Int32 × Mm => r.2.2.2) ((fun s : Int32 × Int32 × Int32 × Int32 × Mm => bd_X11_gatherCrowds_51  s.1 s.2.1 s.2.2.1 s.2.2.2.1 s.2.2.2.2) s) := by
    rintro ⟨x1, x2, x3, x4, μ⟩
    show FrS [47] μ (fun s : Int32 × Int32 × Int32 × Int32 × Mm => s.2.2.2.2) (fun r : Int32 × Int32 × Int32 × Mm => r.2.2.2) (bd_X11_gatherCrowds_51  x1 x2 x3 x4 μ)
    unfold bd_X11_gatherCrowds_51
    refine FrS.ite ?_ ?_
    · exact FrS.inr Fr.rfl
    · refine lt_ (P := fun z => FrS [47] μ (fun s : Int32 × Int32 × Int32 × Int32 × Mm => s.2.2.2.2) (fun r : Int32 × Int32 × Int32 × Mm => r.2.2.2) z) ((upI μ 47 (Int32.toNatClampNeg (((x4 * 19) + 9) + (μ.1 46 (Int32.toNatClampNeg x4)))) ((μ.1 47 (Int32.toNatClampNeg (((x4 * 19) + 9) + (μ.1 46 (Int32.toNatClampNeg x4))))) + 1))) (fun μ5 : Mm => .inl (x1, x2, x3, (x4 + 1), μ5)) (fun μ5 eμ5 => ?_)
      have fμ5 : Fr [47] μ μ5 := by
        rw [eμ5]
        exact Fr.up Fr.rfl (by simp)
      exact FrS.inl fμ5
  exact Fr_whlK (S := [47]) (f := (fun s : Int32 × Int32 × Int32 × Int32 × Mm => bd_X11_gatherCrowds_51  s.1 s.2.1 s.2.2.1 s.2.2.2.1 s.2.2.2.2)) (dd := (fun s : Int32 × Int32 × Int32 × Int32 × Mm => (0, 0, 0, s.2.2.2.2))) (fun s : Int32 × Int32 × Int32 × Int32 × Mm => s.2.2.2.2) (fun r : Int32 × Int32 × Int32 × Mm => r.2.2.2) (fun _ => rfl) key FU s
set_option maxRecDepth 20000 in
set_option maxHeartbeats 400000 in
theorem fw_X11_gatherCrowds_29  (s : Int32 × Int32 × Int32 × Mm) : Fr [10, 11, 12, 13, 14, 17, 46, 47, 8, 9] (s.2.2.2) ((whl (fun s : Int32 × Int32 × Int32 × Mm => bd_X11_gatherCrowds_29  s.1 s.2.1 s.2.2.1 s.2.2.2) (fun s : Int32 × Int32 × Int32 × Mm => (0, s.2.2.2)) FU s).2) := by
  have key : ∀ s : Int32 × Int32 × Int32 × Mm, FrS [10, 11, 12, 13, 14, 17, 46, 47, 8, 9] (s.2.2.2) (fun s : Int32 × Int32 × Int32 × Mm => s.2.2.2) (fun r : Int32 × Mm => r.2) ((fun s : Int32 × Int32 × Int32 × Mm => bd_X11_gatherCrowds_29  s.1 s.2.1 s.2.2.1 s.2.2.2) s) := by
    rintro ⟨x1, x2, x3, μ⟩
    show FrS [10, 11, 12, 13, 14, 17, 46, 47, 8, 9] μ (fun s : Int32 × Int32 × Int32 × Mm => s.2.2.2) (fun r : Int32 × Mm => r.2) (bd_X11_gatherCrowds_29  x1 x2 x3 μ)
    unfold bd_X11_gatherCrowds_29
    refine FrS.ite ?_ ?_
    · exact FrS.inr Fr.rfl
    · refine lt_ (P := fun z => FrS [10, 11, 12, 13, 14, 17, 46, 47, 8, 9] μ (fun s : Int32 × Int32 × Int32 × Mm => s.2.2.2) (fun r : Int32 × Mm => r.2) z) ((e_X11_couldWish x1 x3 20 μ)) (fun μ3 : Mm => (let μ7 : Mm := (if (v_X11_couldWish x1 x3 20 μ) = 0 then μ3 else ((whl (fun s : Int32 × Int32 × Int32 × Int32 × Mm => bd_X11_gatherCrowds_51  s.1 s.2.1 s.2.2.1 s.2.2.2.1 s.2.2.2.2) (fun s : Int32 × Int32 × Int32 × Int32 × Mm => (0, 0, 0, s.2.2.2.2)) FU (x1, 1, x3, 0, μ3)).2.2.2) : Mm); .inl ((if (v_X11_couldWish x1 x3 20 μ) = 0 then x1 else ((whl (fun s : Int32 × Int32 × Int32 × Int32 × Mm => bd_X11_gatherCrowds_51  s.1 s.2.1 s.2.2.1 s.2.2.2.1 s.2.2.2.2) (fun s : Int32 × Int32 × Int32 × Int32 × Mm => (0, 0, 0, s.2.2.2.2)) FU (x1, 1, x3, 0, μ3)).1) : Int32), (if (v_X11_couldWish x1 x3 20 μ) = 0 then x2 else ((whl (fun s : Int32 × Int32 × Int32 × Int32 × Mm => bd_X11_gatherCrowds_51  s.1 s.2.1 s.2.2.1 s.2.2.2.1 s.2.2.2.2) (fun s : Int32 × Int32 × Int32 × Int32 × Mm => (0, 0, 0, s.2.2.2.2)) FU (x1, 1, x3, 0, μ3)).2.1) : Int32), ((if (v_X11_couldWish x1 x3 20 μ) = 0 then x3 else ((whl (fun s : Int32 × Int32 × Int32 × Int32 × Mm => bd_X11_gatherCrowds_51  s.1 s.2.1 s.2.2.1 s.2.2.2.1 s.2.2.2.2) (fun s : Int32 × Int32 × Int32 × Int32 × Mm => (0, 0, 0, s.2.2.2.2)) FU (x1, 1, x3, 0, μ3)).2.2.1) : Int32) + 1), μ7))) (fun μ3 eμ3 => ?_)
      have fμ3 : Fr [10, 11, 12, 13, 14, 17, 46, 47, 8, 9] μ μ3 := by
        rw [eμ3]
        exact Fr.call Fr.rfl (fr_X11_couldWish x1 x3 20 μ) (by simp)
      refine lt_ (P := fun z => FrS [10, 11, 12, 13, 14, 17, 46, 47, 8, 9] μ (fun s : Int32 × Int32 × Int32 × Mm => s.2.2.2) (fun r : Int32 × Mm => r.2) z) ((if (v_X11_couldWish x1 x3 20 μ) = 0 then μ3 else ((whl (fun s : Int32 × Int32 × Int32 × Int32 × Mm => bd_X11_gatherCrowds_51  s.1 s.2.1 s.2.2.1 s.2.2.2.1 s.2.2.2.2) (fun s : Int32 × Int32 × Int32 × Int32 × Mm => (0, 0, 0, s.2.2.2.2)) FU (x1, 1, x3, 0, μ3)).2.2.2) : Mm)) (fun μ7 : Mm => .inl ((if (v_X11_couldWish x1 x3 20 μ) = 0 then x1 else ((whl (fun s : Int32 × Int32 × Int32 × Int32 × Mm => bd_X11_gatherCrowds_51  s.1 s.2.1 s.2.2.1 s.2.2.2.1 s.2.2.2.2) (fun s : Int32 × Int32 × Int32 × Int32 × Mm => (0, 0, 0, s.2.2.2.2)) FU (x1, 1, x3, 0, μ3)).1) : Int32), (if (v_X11_couldWish x1 x3 20 μ) = 0 then x2 else ((whl (fun s : Int32 × Int32 × Int32 × Int32 × Mm => bd_X11_gatherCrowds_51  s.1 s.2.1 s.2.2.1 s.2.2.2.1 s.2.2.2.2) (fun s : Int32 × Int32 × Int32 × Int32 × Mm => (0, 0, 0, s.2.2.2.2)) FU (x1, 1, x3, 0, μ3)).2.1) : Int32), ((if (v_X11_couldWish x1 x3 20 μ) = 0 then x3 else ((whl (fun s : Int32 × Int32 × Int32 × Int32 × Mm => bd_X11_gatherCrowds_51  s.1 s.2.1 s.2.2.1 s.2.2.2.1 s.2.2.2.2) (fun s : Int32 × Int32 × Int32 × Int32 × Mm => (0, 0, 0, s.2.2.2.2)) FU (x1, 1, x3, 0, μ3)).2.2.1) : Int32) + 1), μ7)) (fun μ7 eμ7 => ?_)
      have fμ7 : Fr [10, 11, 12, 13, 14, 17, 46, 47, 8, 9] μ μ7 := by
        rw [eμ7]
        repeat' (first | with_reducible assumption | with_reducible exact Fr.rfl | with_reducible refine Fr.ite ?_ ?_ | with_reducible refine Fr.up ?_ (by simp) | with_reducible refine Fr.upJ ?_ (by simp) | with_reducible refine Fr.call ?_ (fr_X11_couldWish _ _ _ _) (by simp) | with_reducible refine Fr.call ?_ (fw_X11_gatherCrowds_2  _) (by simp) | with_reducible refine Fr.call ?_ (fw_X11_gatherCrowds_51  _) (by simp))
      exact FrS.inl fμ7
  exact Fr_whlK (S := [10, 11, 12, 13, 14, 17, 46, 47, 8, 9]) (f := (fun s : Int32 × Int32 × Int32 × Mm => bd_X11_gatherCrowds_29  s.1 s.2.1 s.2.2.1 s.2.2.2)) (dd := (fun s : Int32 × Int32 × Int32 × Mm => (0, s.2.2.2))) (fun s : Int32 × Int32 × Int32 × Mm => s.2.2.2) (fun r : Int32 × Mm => r.2) (fun _ => rfl) key FU s
set_option maxRecDepth 20000 in
set_option maxHeartbeats 400000 in
theorem fr_X11_gatherCrowds (p0 : Int32) (μ : Mm) : Fr [10, 11, 12, 13, 14, 17, 46, 47, 8, 9] μ (e_X11_gatherCrowds p0 μ) := by
  unfold e_X11_gatherCrowds
  refine lt_ (P := fun z => Fr [10, 11, 12, 13, 14, 17, 46, 47, 8, 9] μ z) (whl (fun s : Int32 × Int32 × Mm => bd_X11_gatherCrowds_2  s.1 s.2.1 s.2.2) (fun s : Int32 × Int32 × Mm => (0, s.2.2)) FU (p0, 0, μ)) (fun r2 : Int32 × Mm => (let r4 : Int32 × Mm := whl (fun s : Int32 × Int32 × Int32 × Mm => bd_X11_gatherCrowds_29  s.1 s.2.1 s.2.2.1 s.2.2.2) (fun s : Int32 × Int32 × Int32 × Mm => (0, s.2.2.2)) FU ((r2.1), 0, (-9), (r2.2)); (r4.2))) (fun r2 er2 => ?_)
  have fr2 : Fr [10, 11, 12, 13, 14, 17, 46, 47, 8, 9] μ (r2.2) := by
    rw [er2]
    exact Fr.call Fr.rfl (fw_X11_gatherCrowds_2  _) (by simp)
  refine lt_ (P := fun z => Fr [10, 11, 12, 13, 14, 17, 46, 47, 8, 9] μ z) (whl (fun s : Int32 × Int32 × Int32 × Mm => bd_X11_gatherCrowds_29  s.1 s.2.1 s.2.2.1 s.2.2.2) (fun s : Int32 × Int32 × Int32 × Mm => (0, s.2.2.2)) FU ((r2.1), 0, (-9), (r2.2))) (fun r4 : Int32 × Mm => (r4.2)) (fun r4 er4 => ?_)
  have fr4 : Fr [10, 11, 12, 13, 14, 17, 46, 47, 8, 9] μ (r4.2) := by
    rw [er4]
    exact Fr.call fr2 (fw_X11_gatherCrowds_29  _) (by simp)
  exact fr4
set_option maxRecDepth 20000 in
set_option maxHeartbeats 400000 in
theorem fr_X11_later (p0 : Int32) (p1 : Int32) (μ : Mm) : Fr [10, 11, 12, 13, 14, 17, 27, 28, 8, 9] μ (e_X11_later p0 p1 μ) := by
  unfold e_X11_later
  refine Fr.ite ?_ ?_
  · exact Fr.rfl
  · refine Fr.ite ?_ ?_
    · exact Fr.rfl
    · refine Fr.ite ?_ ?_
      · refine lt_ (P := fun z => Fr [10, 11, 12, 13, 14, 17, 27, 28, 8, 9] μ z) ((e_X1_become 8 1 μ)) (fun μ5 : Mm => (let μ7 : Mm := (e_X1_go 8 p1 15 μ5); (let μ8 : Mm := (e_X10_begin  μ7); (let μ11 : Mm := (e_X10_add (Int32.toInt64 (2000 + (v_X1_moment 8 μ8))) μ8); μ11)))) (fun μ5 eμ5 => ?_)
        have fμ5 : Fr [10, 11, 12, 13, 14, 17, 27, 28, 8, 9] μ μ5 := by
          rw [eμ5]
          exact Fr.call Fr.rfl (fr_X1_become 8 1 μ) (by simp)
        refine lt_ (P := fun z => Fr [10, 11, 12, 13, 14, 17, 27, 28, 8, 9] μ z) ((e_X1_go 8 p1 15 μ5)) (fun μ7 : Mm => (let μ8 : Mm := (e_X10_begin  μ7); (let μ11 : Mm := (e_X10_add (Int32.toInt64 (2000 + (v_X1_moment 8 μ8))) μ8); μ11))) (fun μ7 eμ7 => ?_)
        have fμ7 : Fr [10, 11, 12, 13, 14, 17, 27, 28, 8, 9] μ μ7 := by
          rw [eμ7]
          exact Fr.call fμ5 (fr_X1_go 8 p1 15 μ5) (by simp)
        refine lt_ (P := fun z => Fr [10, 11, 12, 13, 14, 17, 27, 28, 8, 9] μ z) ((e_X10_begin  μ7)) (fun μ8 : Mm => (let μ11 : Mm := (e_X10_add (Int32.toInt64 (2000 + (v_X1_moment 8 μ8))) μ8); μ11)) (fun μ8 eμ8 => ?_)
        have fμ8 : Fr [10, 11, 12, 13, 14, 17, 27, 28, 8, 9] μ μ8 := by
          rw [eμ8]
          exact Fr.call fμ7 (fr_X10_begin μ7) (by simp)
        refine lt_ (P := fun z => Fr [10, 11, 12, 13, 14, 17, 27, 28, 8, 9] μ z) ((e_X10_add (Int32.toInt64 (2000 + (v_X1_moment 8 μ8))) μ8)) (fun μ11 : Mm => μ11) (fun μ11 eμ11 => ?_)
        have fμ11 : Fr [10, 11, 12, 13, 14, 17, 27, 28, 8, 9] μ μ11 := by
          rw [eμ11]
          exact Fr.call fμ8 (fr_X10_add (Int32.toInt64 (2000 + (v_X1_moment 8 μ8))) μ8) (by simp)
        exact fμ11
      · exact Fr.rfl
set_option maxRecDepth 20000 in
set_option maxHeartbeats 400000 in
theorem fr_X11_minutes (p0 : Int32) (μ : Mm) : Fr [1, 17, 27, 28, 29, 30, 4, 6, 7] μ (e_X11_minutes p0 μ) := by
  unfold e_X11_minutes
  refine Fr.ite ?_ ?_
  · exact Fr.rfl
  · refine Fr.ite ?_ ?_
    · refine lt_ (P := fun z => Fr [1, 17, 27, 28, 29, 30, 4, 6, 7] μ z) ((e_X3_note 1 μ)) (fun μ4 : Mm => (let μ6 : Mm := (e_X1_go 1 p0 15 μ4); (let μ7 : Mm := (e_X3_commit  μ6); (let μ8 : Mm := (e_X10_begin  μ7); (let μ10 : Mm := (e_X10_add (Int32.toInt64 (v_X1_go 1 p0 15 μ4)) μ8); (let μ13 : Mm := (e_X10_add (Int32.toInt64 (v_J6_bitCount_0f7a4 (v_X1_standingOn 1 9 μ10))) μ10); (let μ16 : Mm := (e_X10_add (Int32.toInt64 (v_J6_bitCount_0f7a4 (v_X1_standingOn 1 (-9) μ13))) μ13); μ16))))))) (fun μ4 eμ4 => ?_)
      have fμ4 : Fr [1, 17, 27, 28, 29, 30, 4, 6, 7] μ μ4 := by
        rw [eμ4]
        exact Fr.call Fr.rfl (fr_X3_note 1 μ) (by simp)
      refine lt_ (P := fun z => Fr [1, 17, 27, 28, 29, 30, 4, 6, 7] μ z) ((e_X1_go 1 p0 15 μ4)) (fun μ6 : Mm => (let μ7 : Mm := (e_X3_commit  μ6); (let μ8 : Mm := (e_X10_begin  μ7); (let μ10 : Mm := (e_X10_add (Int32.toInt64 (v_X1_go 1 p0 15 μ4)) μ8); (let μ13 : Mm := (e_X10_add (Int32.toInt64 (v_J6_bitCount_0f7a4 (v_X1_standingOn 1 9 μ10))) μ10); (let μ16 : Mm := (e_X10_add (Int32.toInt64 (v_J6_bitCount_0f7a4 (v_X1_standingOn 1 (-9) μ13))) μ13); μ16)))))) (fun μ6 eμ6 => ?_)
      have fμ6 : Fr [1, 17, 27, 28, 29, 30, 4, 6, 7] μ μ6 := by
        rw [eμ6]
        exact Fr.call fμ4 (fr_X1_go 1 p0 15 μ4) (by simp)
      refine lt_ (P := fun z => Fr [1, 17, 27, 28, 29, 30, 4, 6, 7] μ z) ((e_X3_commit  μ6)) (fun μ7 : Mm => (let μ8 : Mm := (e_X10_begin  μ7); (let μ10 : Mm := (e_X10_add (Int32.toInt64 (v_X1_go 1 p0 15 μ4)) μ8); (let μ13 : Mm := (e_X10_add (Int32.toInt64 (v_J6_bitCount_0f7a4 (v_X1_standingOn 1 9 μ10))) μ10); (let μ16 : Mm := (e_X10_add (Int32.toInt64 (v_J6_bitCount_0f7a4 (v_X1_standingOn 1 (-9) μ13))) μ13); μ16))))) (fun μ7 eμ7 => ?_)
      have fμ7 : Fr [1, 17, 27, 28, 29, 30, 4, 6, 7] μ μ7 := by
        rw [eμ7]
        exact Fr.call fμ6 (fr_X3_commit μ6) (by simp)
      refine lt_ (P := fun z => Fr [1, 17, 27, 28, 29, 30, 4, 6, 7] μ z) ((e_X10_begin  μ7)) (fun μ8 : Mm => (let μ10 : Mm := (e_X10_add (Int32.toInt64 (v_X1_go 1 p0 15 μ4)) μ8); (let μ13 : Mm := (e_X10_add (Int32.toInt64 (v_J6_bitCount_0f7a4 (v_X1_standingOn 1 9 μ10))) μ10); (let μ16 : Mm := (e_X10_add (Int32.toInt64 (v_J6_bitCount_0f7a4 (v_X1_standingOn 1 (-9) μ13))) μ13); μ16)))) (fun μ8 eμ8 => ?_)
      have fμ8 : Fr [1, 17, 27, 28, 29, 30, 4, 6, 7] μ μ8 := by
        rw [eμ8]
        exact Fr.call fμ7 (fr_X10_begin μ7) (by simp)
      refine lt_ (P := fun z => Fr [1, 17, 27, 28, 29, 30, 4, 6, 7] μ z) ((e_X10_add (Int32.toInt64 (v_X1_go 1 p0 15 μ4)) μ8)) (fun μ10 : Mm => (let μ13 : Mm := (e_X10_add (Int32.toInt64 (v_J6_bitCount_0f7a4 (v_X1_standingOn 1 9 μ10))) μ10); (let μ16 : Mm := (e_X10_add (Int32.toInt64 (v_J6_bitCount_0f7a4 (v_X1_standingOn 1 (-9) μ13))) μ13); μ16))) (fun μ10 eμ10 => ?_)
      have fμ10 : Fr [1, 17, 27, 28, 29, 30, 4, 6, 7] μ μ10 := by
        rw [eμ10]
        exact Fr.call fμ8 (fr_X10_add (Int32.toInt64 (v_X1_go 1 p0 15 μ4)) μ8) (by simp)
      refine lt_ (P := fun z => Fr [1, 17, 27, 28, 29, 30, 4, 6, 7] μ z) ((e_X10_add (Int32.toInt64 (v_J6_bitCount_0f7a4 (v_X1_standingOn 1 9 μ10))) μ10)) (fun μ13 : Mm => (let μ16 : Mm := (e_X10_add (Int32.toInt64 (v_J6_bitCount_0f7a4 (v_X1_standingOn 1 (-9) μ13))) μ13); μ16)) (fun μ13 eμ13 => ?_)
      have fμ13 : Fr [1, 17, 27, 28, 29, 30, 4, 6, 7] μ μ13 := by
        rw [eμ13]
        exact Fr.call fμ10 (fr_X10_add (Int32.toInt64 (v_J6_bitCount_0f7a4 (v_X1_standingOn 1 9 μ10))) μ10) (by simp)
      refine lt_ (P := fun z => Fr [1, 17, 27, 28, 29, 30, 4, 6, 7] μ z) ((e_X10_add (Int32.toInt64 (v_J6_bitCount_0f7a4 (v_X1_standingOn 1 (-9) μ13))) μ13)) (fun μ16 : Mm => μ16) (fun μ16 eμ16 => ?_)
      have fμ16 : Fr [1, 17, 27, 28, 29, 30, 4, 6, 7] μ μ16 := by
        rw [eμ16]
        exact Fr.call fμ13 (fr_X10_add (Int32.toInt64 (v_J6_bitCount_0f7a4 (v_X1_standingOn 1 (-9) μ13))) μ13) (by simp)
      exact fμ16
    · exact Fr.rfl
set_option maxRecDepth 20000 in
set_option maxHeartbeats 400000 in
theorem fw_X11_spares_7  (s : Int32 × Int32 × Int32 × Mm) : Fr [10, 11, 12, 13, 14, 17, 8, 9] (s.2.2.2) ((whl (fun s : Int32 × Int32 × Int32 × Mm => bd_X11_spares_7  s.1 s.2.1 s.2.2.1 s.2.2.2) (fun s : Int32 × Int32 × Int32 × Mm => (0, 0, s.2.2.2)) FU s).2.2) := by
  have key : ∀ s : Int32 × Int32 × Int32 × Mm, FrS [10, 11, 12, 13, 14, 17, 8, 9] (s.2.2.2) (fun s : Int32 × Int32 × Int32 × Mm => s.2.2.2) (fun r : Int32 × Int32 × Mm => r.2.2) ((fun s : Int32 × Int32 × Int32 × Mm => bd_X11_spares_7  s.1 s.2.1 s.2.2.1 s.2.2.2) s) := by
    rintro ⟨x1, x2, x3, μ⟩
    show FrS [10, 11, 12, 13, 14, 17, 8, 9] μ (fun s : Int32 × Int32 × Int32 × Mm => s.2.2.2) (fun r : Int32 × Int32 × Mm => r.2.2) (bd_X11_spares_7  x1 x2 x3 μ)
    unfold bd_X11_spares_7
    refine FrS.ite ?_ ?_
    · exact FrS.inr Fr.rfl
    · refine lt_ (P := fun z => FrS [10, 11, 12, 13, 14, 17, 8, 9] μ (fun s : Int32 × Int32 × Int32 × Mm => s.2.2.2) (fun r : Int32 × Int32 × Mm => r.2.2) z) ((if (v_X1_isOff 1 x3 μ) = 0 then ((e_X1_goTillNoon 8 15 ((e_X1_stepOffOrOn 8 x3 ((e_X1_become 8 1 μ)))))) else μ : Mm)) (fun μ10 : Mm => .inl ((if (v_X1_isOff 1 x3 μ) = 0 then (if x1 = (-2) then x3 else (if (v_X1_goTillNoon 8 15 ((e_X1_stepOffOrOn 8 x3 ((e_X1_become 8 1 μ))))) ≤ x2 then x1 else x3 : Int32) : Int32) else x1 : Int32), (if (v_X1_isOff 1 x3 μ) = 0 then (if x1 = (-2) then (v_X1_goTillNoon 8 15 ((e_X1_stepOffOrOn 8 x3 ((e_X1_become 8 1 μ))))) else (if (v_X1_goTillNoon 8 15 ((e_X1_stepOffOrOn 8 x3 ((e_X1_become 8 1 μ))))) ≤ x2 then x2 else (v_X1_goTillNoon 8 15 ((e_X1_stepOffOrOn 8 x3 ((e_X1_become 8 1 μ))))) : Int32) : Int32) else x2 : Int32), (x3 + 1), μ10)) (fun μ10 eμ10 => ?_)
      have fμ10 : Fr [10, 11, 12, 13, 14, 17, 8, 9] μ μ10 := by
        rw [eμ10]
        repeat' (first | with_reducible assumption | with_reducible exact Fr.rfl | with_reducible refine Fr.ite ?_ ?_ | with_reducible refine Fr.up ?_ (by simp) | with_reducible refine Fr.upJ ?_ (by simp) | with_reducible refine Fr.call ?_ (fr_X10_add _ _) (by simp) | with_reducible refine Fr.call ?_ (fr_X10_begin _) (by simp) | with_reducible refine Fr.call ?_ (fr_X1_become _ _ _) (by simp) | with_reducible refine Fr.call ?_ (fr_X1_goTillNoon _ _ _) (by simp) | with_reducible refine Fr.call ?_ (fr_X1_stepOffOrOn _ _ _) (by simp))
      exact FrS.inl fμ10
  exact Fr_whlK (S := [10, 11, 12, 13, 14, 17, 8, 9]) (f := (fun s : Int32 × Int32 × Int32 × Mm => bd_X11_spares_7  s.1 s.2.1 s.2.2.1 s.2.2.2)) (dd := (fun s : Int32 × Int32 × Int32 × Mm => (0, 0, s.2.2.2))) (fun s : Int32 × Int32 × Int32 × Mm => s.2.2.2) (fun r : Int32 × Int32 × Mm => r.2.2) (fun _ => rfl) key FU s
set_option maxRecDepth 20000 in
set_option maxHeartbeats 400000 in
theorem fr_X11_spares  (μ : Mm) : Fr [10, 11, 12, 13, 14, 17, 27, 28, 8, 9] μ (e_X11_spares  μ) := by
  unfold e_X11_spares
  refine lt_ (P := fun z => Fr [10, 11, 12, 13, 14, 17, 27, 28, 8, 9] μ z) (whl (fun s : Int32 × Int32 × Int32 × Mm => bd_X11_spares_7  s.1 s.2.1 s.2.2.1 s.2.2.2) (fun s : Int32 × Int32 × Int32 × Mm => (0, 0, s.2.2.2)) FU ((-2), 0, 0, μ)) (fun r2 : Int32 × Int32 × Mm => (let μ13 : Mm := (if (r2.1) = (-2) then (r2.2.2) else ((e_X10_add (Int32.toInt64 (2000 + (v_X1_goTillNoon 8 15 ((e_X10_add (Int32.toInt64 (2000 + (r2.2.1))) ((e_X10_begin  ((e_X1_become 8 1 (r2.2.2)))))))))) ((e_X1_goTillNoon 8 15 ((e_X10_add (Int32.toInt64 (2000 + (r2.2.1))) ((e_X10_begin  ((e_X1_become 8 1 (r2.2.2))))))))))) : Mm); μ13)) (fun r2 er2 => ?_)
  have fr2 : Fr [10, 11, 12, 13, 14, 17, 27, 28, 8, 9] μ (r2.2.2) := by
    rw [er2]
    exact Fr.call Fr.rfl (fw_X11_spares_7  _) (by simp)
  refine lt_ (P := fun z => Fr [10, 11, 12, 13, 14, 17, 27, 28, 8, 9] μ z) ((if (r2.1) = (-2) then (r2.2.2) else ((e_X10_add (Int32.toInt64 (2000 + (v_X1_goTillNoon 8 15 ((e_X10_add (Int32.toInt64 (2000 + (r2.2.1))) ((e_X10_begin  ((e_X1_become 8 1 (r2.2.2)))))))))) ((e_X1_goTillNoon 8 15 ((e_X10_add (Int32.toInt64 (2000 + (r2.2.1))) ((e_X10_begin  ((e_X1_become 8 1 (r2.2.2))))))))))) : Mm)) (fun μ13 : Mm => μ13) (fun μ13 eμ13 => ?_)
  have fμ13 : Fr [10, 11, 12, 13, 14, 17, 27, 28, 8, 9] μ μ13 := by
    rw [eμ13]
    repeat' (first | with_reducible assumption | with_reducible exact Fr.rfl | with_reducible refine Fr.ite ?_ ?_ | with_reducible refine Fr.up ?_ (by simp) | with_reducible refine Fr.upJ ?_ (by simp) | with_reducible refine Fr.call ?_ (fr_X10_add _ _) (by simp) | with_reducible refine Fr.call ?_ (fr_X10_begin _) (by simp) | with_reducible refine Fr.call ?_ (fr_X1_become _ _ _) (by simp) | with_reducible refine Fr.call ?_ (fr_X1_goTillNoon _ _ _) (by simp) | with_reducible refine Fr.call ?_ (fr_X1_stepOffOrOn _ _ _) (by simp) | with_reducible refine Fr.call ?_ (fw_X11_spares_7  _) (by simp))
  exact fμ13
set_option maxRecDepth 20000 in
set_option maxHeartbeats 400000 in
theorem fw_X12_goesOn_5 (p0 : Nat) (s : Int32 × Int32 × Int32 × Mm) : Fr [59, 60, 62, p0] (s.2.2.2) ((whl (fun s : Int32 × Int32 × Int32 × Mm => bd_X12_goesOn_5 p0 s.1 s.2.1 s.2.2.1 s.2.2.2) (fun s : Int32 × Int32 × Int32 × Mm => (0, s.2.2.2)) FU s).2) := by
  have key : ∀ s : Int32 × Int32 × Int32 × Mm, FrS [59, 60, 62, p0] (s.2.2.2) (fun s : Int32 × Int32 × Int32 × Mm => s.2.2.2) (fun r : Int32 × Mm => r.2) ((fun s : Int32 × Int32 × Int32 × Mm => bd_X12_goesOn_5 p0 s.1 s.2.1 s.2.2.1 s.2.2.2) s) := by
    rintro ⟨x2, x3, x4, μ⟩
    show FrS [59, 60, 62, p0] μ (fun s : Int32 × Int32 × Int32 × Mm => s.2.2.2) (fun r : Int32 × Mm => r.2) (bd_X12_goesOn_5 p0 x2 x3 x4 μ)
    unfold bd_X12_goesOn_5
    refine FrS.ite ?_ ?_
    · exact FrS.inr Fr.rfl
    · refine lt_ (P := fun z => FrS [59, 60, 62, p0] μ (fun s : Int32 × Int32 × Int32 × Mm => s.2.2.2) (fun r : Int32 × Mm => r.2) z) ((e_X12_minuteGoes p0 μ)) (fun μ3 : Mm => .inl (x2, (x3 + (v_X12_minuteGoes p0 μ)), (x4 + 1), μ3)) (fun μ3 eμ3 => ?_)
      have fμ3 : Fr [59, 60, 62, p0] μ μ3 := by
        rw [eμ3]
        exact Fr.call Fr.rfl (fr_X12_minuteGoes p0 μ) (by simp)
      exact FrS.inl fμ3
  exact Fr_whlK (S := [59, 60, 62, p0]) (f := (fun s : Int32 × Int32 × Int32 × Mm => bd_X12_goesOn_5 p0 s.1 s.2.1 s.2.2.1 s.2.2.2)) (dd := (fun s : Int32 × Int32 × Int32 × Mm => (0, s.2.2.2))) (fun s : Int32 × Int32 × Int32 × Mm => s.2.2.2) (fun r : Int32 × Mm => r.2) (fun _ => rfl) key FU s
set_option maxRecDepth 20000 in
set_option maxHeartbeats 400000 in
theorem fr_X12_goesOn (p0 : Nat) (p1 : Int32) (μ : Mm) : Fr [59, 60, 62, p0] μ (e_X12_goesOn p0 p1 μ) := by
  unfold e_X12_goesOn
  refine lt_ (P := fun z => Fr [59, 60, 62, p0] μ z) (whl (fun s : Int32 × Int32 × Int32 × Mm => bd_X12_goesOn_5 p0 s.1 s.2.1 s.2.2.1 s.2.2.2) (fun s : Int32 × Int32 × Int32 × Mm => (0, s.2.2.2)) FU (p1, 0, 0, μ)) (fun r2 : Int32 × Mm => (r2.2)) (fun r2 er2 => ?_)
  have fr2 : Fr [59, 60, 62, p0] μ (r2.2) := by
    rw [er2]
    exact Fr.call Fr.rfl (fw_X12_goesOn_5 p0 _) (by simp)
  exact fr2
set_option maxRecDepth 20000 in
set_option maxHeartbeats 400000 in
theorem fw_X12_isAsSeen_19  (s : Int32 × Int32 × Int32 × Int32 × Mm) : Fr [53, 59, 60, 62, 70] (s.2.2.2.2) ((whl (fun s : Int32 × Int32 × Int32 × Int32 × Mm => bd_X12_isAsSeen_19  s.1 s.2.1 s.2.2.1 s.2.2.2.1 s.2.2.2.2) (fun s : Int32 × Int32 × Int32 × Int32 × Mm => (0, s.2.2.2.2)) FU s).2) := by
  have key : ∀ s : Int32 × Int32 × Int32 × Int32 × Mm, FrS [53, 59, 60, 62, 70] (s.2.2.2.2) (fun s : Int32 × Int32 × Int32 × Int32 × Mm => s.2.2.2.2) (fun r : Int32 × Mm => r.2) ((fun s : Int32 × Int32 × Int32 × Int32 × Mm => bd_X12_isAsSeen_19  s.1 s.2.1 s.2.2.1 s.2.2.2.1 s.2.2.2.2) s) := by
    rintro ⟨x1, x2, x3, x4, μ⟩
    show FrS [53, 59, 60, 62, 70] μ (fun s : Int32 × Int32 × Int32 × Int32 × Mm => s.2.2.2.2) (fun r : Int32 × Mm => r.2) (bd_X12_isAsSeen_19  x1 x2 x3 x4 μ)
    unfold bd_X12_isAsSeen_19
    refine FrS.ite ?_ ?_
    · exact FrS.inr Fr.rfl
    · refine lt_ (P := fun z => FrS [53, 59, 60, 62, 70] μ (fun s : Int32 × Int32 × Int32 × Int32 × Mm => s.2.2.2.2) (fun r : Int32 × Mm => r.2) z) ((upI μ 70 (Int32.toNatClampNeg (v_X12_page x2 x4)) (μ.1 53 (Int32.toNatClampNeg (7 + x1))))) (fun μ4 : Mm => (let r6 : Int32 × Int32 × Int32 × Int32 := whl (fun s : Int32 × Int32 × Int32 × Int32 × Int32 => bd_X12_isAsSeen_49  μ4 s.1 s.2.1 s.2.2.1 s.2.2.2.1 s.2.2.2.2) (fun _ : Int32 × Int32 × Int32 × Int32 × Int32 => (0, 0, 0, 0)) FU (x1, x2, x3, x4, 0); (let μ8 : Mm := (e_X12_minuteGoes 53 μ4); .inl ((r6.1), (r6.2.1), (r6.2.2.1), ((r6.2.2.2) + 1), μ8)))) (fun μ4 eμ4 => ?_)
      have fμ4 : Fr [53, 59, 60, 62, 70] μ μ4 := by
        rw [eμ4]
        exact Fr.up Fr.rfl (by simp)
      refine lt_ (P := fun z => FrS [53, 59, 60, 62, 70] μ (fun s : Int32 × Int32 × Int32 × Int32 × Mm => s.2.2.2.2) (fun r : Int32 × Mm => r.2) z) (whl (fun s : Int32 × Int32 × Int32 × Int32 × Int32 => bd_X12_isAsSeen_49  μ4 s.1 s.2.1 s.2.2.1 s.2.2.2.1 s.2.2.2.2) (fun _ : Int32 × Int32 × Int32 × Int32 × Int32 => (0, 0, 0, 0)) FU (x1, x2, x3, x4, 0)) (fun r6 : Int32 × Int32 × Int32 × Int32 => (let μ8 : Mm := (e_X12_minuteGoes 53 μ4); .inl ((r6.1), (r6.2.1), (r6.2.2.1), ((r6.2.2.2) + 1), μ8))) (fun r6 er6 => ?_)
      refine lt_ (P := fun z => FrS [53, 59, 60, 62, 70] μ (fun s : Int32 × Int32 × Int32 × Int32 × Mm => s.2.2.2.2) (fun r : Int32 × Mm => r.2) z) ((e_X12_minuteGoes 53 μ4)) (fun μ8 : Mm => .inl ((r6.1), (r6.2.1), (r6.2.2.1), ((r6.2.2.2) + 1), μ8)) (fun μ8 eμ8 => ?_)
      have fμ8 : Fr [53, 59, 60, 62, 70] μ μ8 := by
        rw [eμ8]
        exact Fr.call fμ4 (fr_X12_minuteGoes 53 μ4) (by simp)
      exact FrS.inl fμ8
  exact Fr_whlK (S := [53, 59, 60, 62, 70]) (f := (fun s : Int32 × Int32 × Int32 × Int32 × Mm => bd_X12_isAsSeen_19  s.1 s.2.1 s.2.2.1 s.2.2.2.1 s.2.2.2.2)) (dd := (fun s : Int32 × Int32 × Int32 × Int32 × Mm => (0, s.2.2.2.2))) (fun s : Int32 × Int32 × Int32 × Int32 × Mm => s.2.2.2.2) (fun r : Int32 × Mm => r.2) (fun _ => rfl) key FU s
set_option maxRecDepth 20000 in
set_option maxHeartbeats 400000 in
theorem fr_X12_isAsSeen (p0 : Int32) (p1 : Int32) (μ : Mm) : Fr [53, 59, 60, 62, 70] μ (e_X12_isAsSeen p0 p1 μ) := by
  unfold e_X12_isAsSeen
  refine lt_ (P := fun z => Fr [53, 59, 60, 62, 70] μ z) ((e_X12_copies  μ)) (fun μ2 : Mm => (let μ4 : Mm := (upI μ2 53 (Int32.toNatClampNeg p0) (p1 - 9)); (let r6 : Int32 × Mm := whl (fun s : Int32 × Int32 × Int32 × Int32 × Mm => bd_X12_isAsSeen_19  s.1 s.2.1 s.2.2.1 s.2.2.2.1 s.2.2.2.2) (fun s : Int32 × Int32 × Int32 × Int32 × Mm => (0, s.2.2.2.2)) FU (p0, p1, 1, 0, μ4); (r6.2)))) (fun μ2 eμ2 => ?_)
  have fμ2 : Fr [53, 59, 60, 62, 70] μ μ2 := by
    rw [eμ2]
    exact Fr.call Fr.rfl (fr_X12_copies μ) (by simp)
  refine lt_ (P := fun z => Fr [53, 59, 60, 62, 70] μ z) ((upI μ2 53 (Int32.toNatClampNeg p0) (p1 - 9))) (fun μ4 : Mm => (let r6 : Int32 × Mm := whl (fun s : Int32 × Int32 × Int32 × Int32 × Mm => bd_X12_isAsSeen_19  s.1 s.2.1 s.2.2.1 s.2.2.2.1 s.2.2.2.2) (fun s : Int32 × Int32 × Int32 × Int32 × Mm => (0, s.2.2.2.2)) FU (p0, p1, 1, 0, μ4); (r6.2))) (fun μ4 eμ4 => ?_)
  have fμ4 : Fr [53, 59, 60, 62, 70] μ μ4 := by
    rw [eμ4]
    exact Fr.up fμ2 (by simp)
  refine lt_ (P := fun z => Fr [53, 59, 60, 62, 70] μ z) (whl (fun s : Int32 × Int32 × Int32 × Int32 × Mm => bd_X12_isAsSeen_19  s.1 s.2.1 s.2.2.1 s.2.2.2.1 s.2.2.2.2) (fun s : Int32 × Int32 × Int32 × Int32 × Mm => (0, s.2.2.2.2)) FU (p0, p1, 1, 0, μ4)) (fun r6 : Int32 × Mm => (r6.2)) (fun r6 er6 => ?_)
  have fr6 : Fr [53, 59, 60, 62, 70] μ (r6.2) := by
    rw [er6]
    exact Fr.call fμ4 (fw_X12_isAsSeen_19  _) (by simp)
  exact fr6
set_option maxRecDepth 20000 in
set_option maxHeartbeats 400000 in
theorem fw_X12_level_18  (s : Int32 × Int32 × Mm) : Fr [49, 50, 53, 59, 60, 62] (s.2.2) ((whl (fun s : Int32 × Int32 × Mm => bd_X12_level_18  s.1 s.2.1 s.2.2) (fun s : Int32 × Int32 × Mm => (0, s.2.2)) FU s).2) := by
  have key : ∀ s : Int32 × Int32 × Mm, FrS [49, 50, 53, 59, 60, 62] (s.2.2) (fun s : Int32 × Int32 × Mm => s.2.2) (fun r : Int32 × Mm => r.2) ((fun s : Int32 × Int32 × Mm => bd_X12_level_18  s.1 s.2.1 s.2.2) s) := by
    rintro ⟨x1, x2, μ⟩
    show FrS [49, 50, 53, 59, 60, 62] μ (fun s : Int32 × Int32 × Mm => s.2.2) (fun r : Int32 × Mm => r.2) (bd_X12_level_18  x1 x2 μ)
    unfold bd_X12_level_18
    refine FrS.ite ?_ ?_
    · exact FrS.inr Fr.rfl
    · refine lt_ (P := fun z => FrS [49, 50, 53, 59, 60, 62] μ (fun s : Int32 × Int32 × Mm => s.2.2) (fun r : Int32 × Mm => r.2) z) ((if (if (v_X12_moment 53 μ) = 0 then 1 else 0 : Int32) = 0 then μ else (if x1 = 0 then ((e_X12_enters (Int32.toInt64 x2) μ)) else μ : Mm) : Mm)) (fun μ9 : Mm => (let μ11 : Mm := (e_X12_minuteGoes 53 μ9); .inl ((x1 + (v_X12_flag (if (v_X12_moment 53 μ) = 0 then 1 else 0 : Int32))), (x2 + 1), μ11))) (fun μ9 eμ9 => ?_)
      have fμ9 : Fr [49, 50, 53, 59, 60, 62] μ μ9 := by
        rw [eμ9]
        repeat' (first | with_reducible assumption | with_reducible exact Fr.rfl | with_reducible refine Fr.ite ?_ ?_ | with_reducible refine Fr.up ?_ (by simp) | with_reducible refine Fr.upJ ?_ (by simp) | with_reducible refine Fr.call ?_ (fr_X12_copies _) (by simp) | with_reducible refine Fr.call ?_ (fr_X12_enters _ _) (by simp) | with_reducible refine Fr.call ?_ (fr_X12_minuteGoes _ _) (by simp))
      refine lt_ (P := fun z => FrS [49, 50, 53, 59, 60, 62] μ (fun s : Int32 × Int32 × Mm => s.2.2) (fun r : Int32 × Mm => r.2) z) ((e_X12_minuteGoes 53 μ9)) (fun μ11 : Mm => .inl ((x1 + (v_X12_flag (if (v_X12_moment 53 μ) = 0 then 1 else 0 : Int32))), (x2 + 1), μ11)) (fun μ11 eμ11 => ?_)
      have fμ11 : Fr [49, 50, 53, 59, 60, 62] μ μ11 := by
        rw [eμ11]
        exact Fr.call fμ9 (fr_X12_minuteGoes 53 μ9) (by simp)
      exact FrS.inl fμ11
  exact Fr_whlK (S := [49, 50, 53, 59, 60, 62]) (f := (fun s : Int32 × Int32 × Mm => bd_X12_level_18  s.1 s.2.1 s.2.2)) (dd := (fun s : Int32 × Int32 × Mm => (0, s.2.2))) (fun s : Int32 × Int32 × Mm => s.2.2) (fun r : Int32 × Mm => r.2) (fun _ => rfl) key FU s
set_option maxRecDepth 20000 in
set_option maxHeartbeats 400000 in
theorem fr_X12_level  (μ : Mm) : Fr [49, 50, 53, 59, 60, 62] μ (e_X12_level  μ) := by
  unfold e_X12_level
  refine lt_ (P := fun z => Fr [49, 50, 53, 59, 60, 62] μ z) ((upI μ 49 0 0)) (fun μ1 : Mm => (let μ3 : Mm := (e_X12_copies  μ1); (let μ4 : Mm := (upI μ3 49 1 0); (let r6 : Int32 × Mm := whl (fun s : Int32 × Int32 × Mm => bd_X12_level_18  s.1 s.2.1 s.2.2) (fun s : Int32 × Int32 × Mm => (0, s.2.2)) FU (0, 0, μ4); (r6.2))))) (fun μ1 eμ1 => ?_)
  have fμ1 : Fr [49, 50, 53, 59, 60, 62] μ μ1 := by
    rw [eμ1]
    exact Fr.up Fr.rfl (by simp)
  refine lt_ (P := fun z => Fr [49, 50, 53, 59, 60, 62] μ z) ((e_X12_copies  μ1)) (fun μ3 : Mm => (let μ4 : Mm := (upI μ3 49 1 0); (let r6 : Int32 × Mm := whl (fun s : Int32 × Int32 × Mm => bd_X12_level_18  s.1 s.2.1 s.2.2) (fun s : Int32 × Int32 × Mm => (0, s.2.2)) FU (0, 0, μ4); (r6.2)))) (fun μ3 eμ3 => ?_)
  have fμ3 : Fr [49, 50, 53, 59, 60, 62] μ μ3 := by
    rw [eμ3]
    exact Fr.call fμ1 (fr_X12_copies μ1) (by simp)
  refine lt_ (P := fun z => Fr [49, 50, 53, 59, 60, 62] μ z) ((upI μ3 49 1 0)) (fun μ4 : Mm => (let r6 : Int32 × Mm := whl (fun s : Int32 × Int32 × Mm => bd_X12_level_18  s.1 s.2.1 s.2.2) (fun s : Int32 × Int32 × Mm => (0, s.2.2)) FU (0, 0, μ4); (r6.2))) (fun μ4 eμ4 => ?_)
  have fμ4 : Fr [49, 50, 53, 59, 60, 62] μ μ4 := by
    rw [eμ4]
    exact Fr.up fμ3 (by simp)
  refine lt_ (P := fun z => Fr [49, 50, 53, 59, 60, 62] μ z) (whl (fun s : Int32 × Int32 × Mm => bd_X12_level_18  s.1 s.2.1 s.2.2) (fun s : Int32 × Int32 × Mm => (0, s.2.2)) FU (0, 0, μ4)) (fun r6 : Int32 × Mm => (r6.2)) (fun r6 er6 => ?_)
  have fr6 : Fr [49, 50, 53, 59, 60, 62] μ (r6.2) := by
    rw [er6]
    exact Fr.call fμ4 (fw_X12_level_18  _) (by simp)
  exact fr6
set_option maxRecDepth 20000 in
set_option maxHeartbeats 400000 in
theorem fr_X12_readsSigned (p0 : Nat) (μ : Mm) : Fr [49] μ (e_X12_readsSigned p0 μ) := by
  unfold e_X12_readsSigned
  refine lt_ (P := fun z => Fr [49] μ z) ((e_X12_takesOf p0 μ)) (fun μ2 : Mm => (let μ6 : Mm := (if 0 ≤ (v_X12_takesOf p0 μ) then ((e_X12_number 1 μ2)) else μ2 : Mm); (let μ9 : Mm := (upI μ6 49 13 (if (v_X12_takesOf p0 μ) = 1 then (if 0 ≤ (v_X12_takesOf p0 μ) then (v_X12_number 1 μ2) else (-1) : Int32) else (-(if 0 ≤ (v_X12_takesOf p0 μ) then (v_X12_number 1 μ2) else (-1) : Int32)) : Int32)); μ9))) (fun μ2 eμ2 => ?_)
  have fμ2 : Fr [49] μ μ2 := by
    rw [eμ2]
    exact Fr.call Fr.rfl (fr_X12_takesOf p0 μ) (by simp)
  refine lt_ (P := fun z => Fr [49] μ z) ((if 0 ≤ (v_X12_takesOf p0 μ) then ((e_X12_number 1 μ2)) else μ2 : Mm)) (fun μ6 : Mm => (let μ9 : Mm := (upI μ6 49 13 (if (v_X12_takesOf p0 μ) = 1 then (if 0 ≤ (v_X12_takesOf p0 μ) then (v_X12_number 1 μ2) else (-1) : Int32) else (-(if 0 ≤ (v_X12_takesOf p0 μ) then (v_X12_number 1 μ2) else (-1) : Int32)) : Int32)); μ9)) (fun μ6 eμ6 => ?_)
  have fμ6 : Fr [49] μ μ6 := by
    rw [eμ6]
    repeat' (first | with_reducible assumption | with_reducible exact Fr.rfl | with_reducible refine Fr.ite ?_ ?_ | with_reducible refine Fr.up ?_ (by simp) | with_reducible refine Fr.upJ ?_ (by simp) | with_reducible refine Fr.call ?_ (fr_X12_number _ _) (by simp) | with_reducible refine Fr.call ?_ (fr_X12_takesOf _ _) (by simp))
  refine lt_ (P := fun z => Fr [49] μ z) ((upI μ6 49 13 (if (v_X12_takesOf p0 μ) = 1 then (if 0 ≤ (v_X12_takesOf p0 μ) then (v_X12_number 1 μ2) else (-1) : Int32) else (-(if 0 ≤ (v_X12_takesOf p0 μ) then (v_X12_number 1 μ2) else (-1) : Int32)) : Int32))) (fun μ9 : Mm => μ9) (fun μ9 eμ9 => ?_)
  have fμ9 : Fr [49] μ μ9 := by
    rw [eμ9]
    exact Fr.up fμ6 (by simp)
  exact fμ9
set_option maxRecDepth 20000 in
set_option maxHeartbeats 400000 in
theorem fw_X12_rest_11  (s : Int32 × Mm) : Fr [49, 50, 53, 59, 60, 62] (s.2) ((whl (fun s : Int32 × Mm => bd_X12_rest_11  s.1 s.2) (fun s : Int32 × Mm => (0, s.2)) FU s).2) := by
  have key : ∀ s : Int32 × Mm, FrS [49, 50, 53, 59, 60, 62] (s.2) (fun s : Int32 × Mm => s.2) (fun r : Int32 × Mm => r.2) ((fun s : Int32 × Mm => bd_X12_rest_11  s.1 s.2) s) := by
    rintro ⟨x1, μ⟩
    show FrS [49, 50, 53, 59, 60, 62] μ (fun s : Int32 × Mm => s.2) (fun r : Int32 × Mm => r.2) (bd_X12_rest_11  x1 μ)
    unfold bd_X12_rest_11
    refine FrS.ite ?_ ?_
    · exact FrS.inr Fr.rfl
    · refine lt_ (P := fun z => FrS [49, 50, 53, 59, 60, 62] μ (fun s : Int32 × Mm => s.2) (fun r : Int32 × Mm => r.2) z) ((e_X12_minuteGoes 53 μ)) (fun μ4 : Mm => (if (v_X12_minuteGoes 53 μ) = 0 then (let μ6 : Mm := (upI μ4 49 1 0); (let μ8 : Mm := (e_X12_enters (Int32.toInt64 (2000 + (v_X12_moment 53 μ))) μ6); .inr (x1, μ8))) else .inl ((x1 + 1), μ4))) (fun μ4 eμ4 => ?_)
      have fμ4 : Fr [49, 50, 53, 59, 60, 62] μ μ4 := by
        rw [eμ4]
        exact Fr.call Fr.rfl (fr_X12_minuteGoes 53 μ) (by simp)
      refine FrS.ite ?_ ?_
      · refine lt_ (P := fun z => FrS [49, 50, 53, 59, 60, 62] μ (fun s : Int32 × Mm => s.2) (fun r : Int32 × Mm => r.2) z) ((upI μ4 49 1 0)) (fun μ6 : Mm => (let μ8 : Mm := (e_X12_enters (Int32.toInt64 (2000 + (v_X12_moment 53 μ))) μ6); .inr (x1, μ8))) (fun μ6 eμ6 => ?_)
        have fμ6 : Fr [49, 50, 53, 59, 60, 62] μ μ6 := by
          rw [eμ6]
          exact Fr.up fμ4 (by simp)
        refine lt_ (P := fun z => FrS [49, 50, 53, 59, 60, 62] μ (fun s : Int32 × Mm => s.2) (fun r : Int32 × Mm => r.2) z) ((e_X12_enters (Int32.toInt64 (2000 + (v_X12_moment 53 μ))) μ6)) (fun μ8 : Mm => .inr (x1, μ8)) (fun μ8 eμ8 => ?_)
        have fμ8 : Fr [49, 50, 53, 59, 60, 62] μ μ8 := by
          rw [eμ8]
          exact Fr.call fμ6 (fr_X12_enters (Int32.toInt64 (2000 + (v_X12_moment 53 μ))) μ6) (by simp)
        exact FrS.inr fμ8
      · exact FrS.inl fμ4
  exact Fr_whlK (S := [49, 50, 53, 59, 60, 62]) (f := (fun s : Int32 × Mm => bd_X12_rest_11  s.1 s.2)) (dd := (fun s : Int32 × Mm => (0, s.2))) (fun s : Int32 × Mm => s.2) (fun r : Int32 × Mm => r.2) (fun _ => rfl) key FU s
set_option maxRecDepth 20000 in
set_option maxHeartbeats 400000 in
theorem fr_X12_rest  (μ : Mm) : Fr [49, 50, 53, 59, 60, 62] μ (e_X12_rest  μ) := by
  unfold e_X12_rest
  refine lt_ (P := fun z => Fr [49, 50, 53, 59, 60, 62] μ z) ((upI μ 49 0 0)) (fun μ1 : Mm => (let μ3 : Mm := (e_X12_copies  μ1); (whl (fun s : Int32 × Mm => bd_X12_rest_11  s.1 s.2) (fun s : Int32 × Mm => (0, s.2)) FU (0, μ3)).2)) (fun μ1 eμ1 => ?_)
  have fμ1 : Fr [49, 50, 53, 59, 60, 62] μ μ1 := by
    rw [eμ1]
    exact Fr.up Fr.rfl (by simp)
  refine lt_ (P := fun z => Fr [49, 50, 53, 59, 60, 62] μ z) ((e_X12_copies  μ1)) (fun μ3 : Mm => (whl (fun s : Int32 × Mm => bd_X12_rest_11  s.1 s.2) (fun s : Int32 × Mm => (0, s.2)) FU (0, μ3)).2) (fun μ3 eμ3 => ?_)
  have fμ3 : Fr [49, 50, 53, 59, 60, 62] μ μ3 := by
    rw [eμ3]
    exact Fr.call fμ1 (fr_X12_copies μ1) (by simp)
  exact Fr.call fμ3 (fw_X12_rest_11  _) (by simp)
set_option maxRecDepth 20000 in
set_option maxHeartbeats 400000 in
theorem fw_X12_swings_11  (s : Int32 × Mm) : Fr [49, 50, 53, 59, 60, 62] (s.2) ((whl (fun s : Int32 × Mm => bd_X12_swings_11  s.1 s.2) (fun s : Int32 × Mm => (0, s.2)) FU s).2) := by
  have key : ∀ s : Int32 × Mm, FrS [49, 50, 53, 59, 60, 62] (s.2) (fun s : Int32 × Mm => s.2) (fun r : Int32 × Mm => r.2) ((fun s : Int32 × Mm => bd_X12_swings_11  s.1 s.2) s) := by
    rintro ⟨x1, μ⟩
    show FrS [49, 50, 53, 59, 60, 62] μ (fun s : Int32 × Mm => s.2) (fun r : Int32 × Mm => r.2) (bd_X12_swings_11  x1 μ)
    unfold bd_X12_swings_11
    refine FrS.ite ?_ ?_
    · exact FrS.inr Fr.rfl
    · refine lt_ (P := fun z => FrS [49, 50, 53, 59, 60, 62] μ (fun s : Int32 × Mm => s.2) (fun r : Int32 × Mm => r.2) z) ((e_X12_minuteGoes 53 μ)) (fun μ3 : Mm => (if (v_X12_side (v_X12_moment 53 μ3)) = (v_X12_side (v_X12_moment 52 μ3)) then .inl ((x1 + 1), μ3) else (let μ7 : Mm := (upI μ3 49 1 0); (let μ10 : Mm := (e_X12_enters (Int32.toInt64 (1 + (v_X12_side (v_X12_moment 53 μ7)))) μ7); .inr (x1, μ10))))) (fun μ3 eμ3 => ?_)
      have fμ3 : Fr [49, 50, 53, 59, 60, 62] μ μ3 := by
        rw [eμ3]
        exact Fr.call Fr.rfl (fr_X12_minuteGoes 53 μ) (by simp)
      refine FrS.ite ?_ ?_
      · exact FrS.inl fμ3
      · refine lt_ (P := fun z => FrS [49, 50, 53, 59, 60, 62] μ (fun s : Int32 × Mm => s.2) (fun r : Int32 × Mm => r.2) z) ((upI μ3 49 1 0)) (fun μ7 : Mm => (let μ10 : Mm := (e_X12_enters (Int32.toInt64 (1 + (v_X12_side (v_X12_moment 53 μ7)))) μ7); .inr (x1, μ10))) (fun μ7 eμ7 => ?_)
        have fμ7 : Fr [49, 50, 53, 59, 60, 62] μ μ7 := by
          rw [eμ7]
          exact Fr.up fμ3 (by simp)
        refine lt_ (P := fun z => FrS [49, 50, 53, 59, 60, 62] μ (fun s : Int32 × Mm => s.2) (fun r : Int32 × Mm => r.2) z) ((e_X12_enters (Int32.toInt64 (1 + (v_X12_side (v_X12_moment 53 μ7)))) μ7)) (fun μ10 : Mm => .inr (x1, μ10)) (fun μ10 eμ10 => ?_)
        have fμ10 : Fr [49, 50, 53, 59, 60, 62] μ μ10 := by
          rw [eμ10]
          exact Fr.call fμ7 (fr_X12_enters (Int32.toInt64 (1 + (v_X12_side (v_X12_moment 53 μ7)))) μ7) (by simp)
        exact FrS.inr fμ10
  exact Fr_whlK (S := [49, 50, 53, 59, 60, 62]) (f := (fun s : Int32 × Mm => bd_X12_swings_11  s.1 s.2)) (dd := (fun s : Int32 × Mm => (0, s.2))) (fun s : Int32 × Mm => s.2) (fun r : Int32 × Mm => r.2) (fun _ => rfl) key FU s
set_option maxRecDepth 20000 in
set_option maxHeartbeats 400000 in
theorem fr_X12_swings  (μ : Mm) : Fr [49, 50, 53, 59, 60, 62] μ (e_X12_swings  μ) := by
  unfold e_X12_swings
  refine lt_ (P := fun z => Fr [49, 50, 53, 59, 60, 62] μ z) ((upI μ 49 0 0)) (fun μ1 : Mm => (let μ3 : Mm := (e_X12_copies  μ1); (whl (fun s : Int32 × Mm => bd_X12_swings_11  s.1 s.2) (fun s : Int32 × Mm => (0, s.2)) FU (1, μ3)).2)) (fun μ1 eμ1 => ?_)
  have fμ1 : Fr [49, 50, 53, 59, 60, 62] μ μ1 := by
    rw [eμ1]
    exact Fr.up Fr.rfl (by simp)
  refine lt_ (P := fun z => Fr [49, 50, 53, 59, 60, 62] μ z) ((e_X12_copies  μ1)) (fun μ3 : Mm => (whl (fun s : Int32 × Mm => bd_X12_swings_11  s.1 s.2) (fun s : Int32 × Mm => (0, s.2)) FU (1, μ3)).2) (fun μ3 eμ3 => ?_)
  have fμ3 : Fr [49, 50, 53, 59, 60, 62] μ μ3 := by
    rw [eμ3]
    exact Fr.call fμ1 (fr_X12_copies μ1) (by simp)
  exact Fr.call fμ3 (fw_X12_swings_11  _) (by simp)
set_option maxRecDepth 20000 in
set_option maxHeartbeats 400000 in
theorem fr_X11_looks (p0 : Int32) (μ : Mm) : Fr [10, 11, 12, 13, 14, 17, 27, 28, 46, 47, 8, 9] μ (e_X11_looks p0 μ) := by
  unfold e_X11_looks
  refine Fr.ite ?_ ?_
  · exact Fr.rfl
  · refine lt_ (P := fun z => Fr [10, 11, 12, 13, 14, 17, 27, 28, 46, 47, 8, 9] μ z) ((e_X11_gatherCrowds p0 μ)) (fun μ3 : Mm => (if (v_X11_gatherCrowds p0 μ) = 0 then μ3 else (let r7 : Int32 × Int32 := whl (fun s : Int32 × Int32 × Int32 => bd_X11_looks_35  μ3 s.1 s.2.1 s.2.2) (fun _ : Int32 × Int32 × Int32 => (0, 0)) FU (0, (v_X11_mostOnOnePlace 0 μ3), 1); (let μ8 : Mm := (e_X10_begin  μ3); (let μ10 : Mm := (e_X10_add (Int32.toInt64 (r7.2)) μ8); μ10))))) (fun μ3 eμ3 => ?_)
    have fμ3 : Fr [10, 11, 12, 13, 14, 17, 27, 28, 46, 47, 8, 9] μ μ3 := by
      rw [eμ3]
      exact Fr.call Fr.rfl (fr_X11_gatherCrowds p0 μ) (by simp)
    refine Fr.ite ?_ ?_
    · exact fμ3
    · refine lt_ (P := fun z => Fr [10, 11, 12, 13, 14, 17, 27, 28, 46, 47, 8, 9] μ z) (whl (fun s : Int32 × Int32 × Int32 => bd_X11_looks_35  μ3 s.1 s.2.1 s.2.2) (fun _ : Int32 × Int32 × Int32 => (0, 0)) FU (0, (v_X11_mostOnOnePlace 0 μ3), 1)) (fun r7 : Int32 × Int32 => (let μ8 : Mm := (e_X10_begin  μ3); (let μ10 : Mm := (e_X10_add (Int32.toInt64 (r7.2)) μ8); μ10))) (fun r7 er7 => ?_)
      refine lt_ (P := fun z => Fr [10, 11, 12, 13, 14, 17, 27, 28, 46, 47, 8, 9] μ z) ((e_X10_begin  μ3)) (fun μ8 : Mm => (let μ10 : Mm := (e_X10_add (Int32.toInt64 (r7.2)) μ8); μ10)) (fun μ8 eμ8 => ?_)
      have fμ8 : Fr [10, 11, 12, 13, 14, 17, 27, 28, 46, 47, 8, 9] μ μ8 := by
        rw [eμ8]
        exact Fr.call fμ3 (fr_X10_begin μ3) (by simp)
      refine lt_ (P := fun z => Fr [10, 11, 12, 13, 14, 17, 27, 28, 46, 47, 8, 9] μ z) ((e_X10_add (Int32.toInt64 (r7.2)) μ8)) (fun μ10 : Mm => μ10) (fun μ10 eμ10 => ?_)
      have fμ10 : Fr [10, 11, 12, 13, 14, 17, 27, 28, 46, 47, 8, 9] μ μ10 := by
        rw [eμ10]
        exact Fr.call fμ8 (fr_X10_add (Int32.toInt64 (r7.2)) μ8) (by simp)
      exact fμ10
set_option maxRecDepth 20000 in
set_option maxHeartbeats 400000 in
theorem fw_X11_morning_45  (s : Int32 × Int32 × Int32 × Int32 × Mm) : Fr [1, 17, 3, 4, 5, 6, 7] (s.2.2.2.2) ((whl (fun s : Int32 × Int32 × Int32 × Int32 × Mm => bd_X11_morning_45  s.1 s.2.1 s.2.2.1 s.2.2.2.1 s.2.2.2.2) (fun s : Int32 × Int32 × Int32 × Int32 × Mm => (0, 0, s.2.2.2.2)) FU s).2.2) := by
  have key : ∀ s : Int32 × Int32 × Int32 × Int32 × Mm, FrS [1, 17, 3, 4, 5, 6, 7] (s.2.2.2.2) (fun s : Int32 × Int32 × Int32 × Int32 × Mm => s.2.2.2.2) (fun r : Int32 × Int32 × Mm => r.2.2) ((fun s : Int32 × Int32 × Int32 × Int32 × Mm => bd_X11_morning_45  s.1 s.2.1 s.2.2.1 s.2.2.2.1 s.2.2.2.2) s) := by
    rintro ⟨x2, x3, x4, x5, μ⟩
    show FrS [1, 17, 3, 4, 5, 6, 7] μ (fun s : Int32 × Int32 × Int32 × Int32 × Mm => s.2.2.2.2) (fun r : Int32 × Int32 × Mm => r.2.2) (bd_X11_morning_45  x2 x3 x4 x5 μ)
    unfold bd_X11_morning_45
    refine FrS.ite ?_ ?_
    · exact FrS.inr Fr.rfl
    · refine FrS.ite ?_ ?_
      · refine lt_ (P := fun z => FrS [1, 17, 3, 4, 5, 6, 7] μ (fun s : Int32 × Int32 × Int32 × Int32 × Mm => s.2.2.2.2) (fun r : Int32 × Int32 × Mm => r.2.2) z) ((if x5 = x3 then ((e_X11_act x5 μ)) else μ : Mm)) (fun μ11 : Mm => .inl ((if x5 = x3 then (x2 + (if (if 0 ≤ (v_X11_act x5 μ) then 0 else 1 : Int32) = 0 then 1 else 0 : Int32)) else x2 : Int32), (if x5 = x3 then (x3 + (v_X9_actLength (v_X9_at x5 μ))) else x3 : Int32), (if x5 = x3 then (if 0 ≤ (v_X11_act x5 μ) then 0 else 1 : Int32) else x4 : Int32), (x5 + 1), μ11)) (fun μ11 eμ11 => ?_)
        have fμ11 : Fr [1, 17, 3, 4, 5, 6, 7] μ μ11 := by
          rw [eμ11]
          repeat' (first | with_reducible assumption | with_reducible exact Fr.rfl | with_reducible refine Fr.ite ?_ ?_ | with_reducible refine Fr.up ?_ (by simp) | with_reducible refine Fr.upJ ?_ (by simp) | with_reducible refine Fr.call ?_ (fr_X10_add _ _) (by simp) | with_reducible refine Fr.call ?_ (fr_X10_begin _) (by simp) | with_reducible refine Fr.call ?_ (fr_X11_act _ _) (by simp) | with_reducible refine Fr.call ?_ (fr_X3_commit _) (by simp) | with_reducible refine Fr.call ?_ (fr_X3_note _ _) (by simp) | with_reducible refine Fr.call ?_ (fr_X9_clear _) (by simp))
        exact FrS.inl fμ11
      · exact FrS.inr Fr.rfl
  exact Fr_whlK (S := [1, 17, 3, 4, 5, 6, 7]) (f := (fun s : Int32 × Int32 × Int32 × Int32 × Mm => bd_X11_morning_45  s.1 s.2.1 s.2.2.1 s.2.2.2.1 s.2.2.2.2)) (dd := (fun s : Int32 × Int32 × Int32 × Int32 × Mm => (0, 0, s.2.2.2.2))) (fun s : Int32 × Int32 × Int32 × Int32 × Mm => s.2.2.2.2) (fun r : Int32 × Int32 × Mm => r.2.2) (fun _ => rfl) key FU s
set_option maxRecDepth 20000 in
set_option maxHeartbeats 400000 in
theorem fr_X11_morning  (μ : Mm) : Fr [1, 17, 25, 27, 28, 29, 3, 30, 4, 5, 6, 7] μ (e_X11_morning  μ) := by
  unfold e_X11_morning
  refine Fr.ite ?_ ?_
  · refine lt_ (P := fun z => Fr [1, 17, 25, 27, 28, 29, 3, 30, 4, 5, 6, 7] μ z) ((e_X3_note 1 μ)) (fun μ4 : Mm => (let r6 : Int32 × Int32 × Mm := whl (fun s : Int32 × Int32 × Int32 × Int32 × Mm => bd_X11_morning_45  s.1 s.2.1 s.2.2.1 s.2.2.2.1 s.2.2.2.2) (fun s : Int32 × Int32 × Int32 × Int32 × Mm => (0, 0, s.2.2.2.2)) FU (0, 0, 0, 0, μ4); (let μ9 : Mm := (if (r6.1) ≤ 0 then (r6.2.2) else ((e_X3_commit  (r6.2.2))) : Mm); (let μ10 : Mm := (e_X9_clear  μ9); (let μ11 : Mm := (e_X10_begin  μ10); (let μ15 : Mm := (e_X10_add (if (r6.2.1) = 0 then 0 else 1 : Int64) μ11); (let μ18 : Mm := (e_X10_add (Int32.toInt64 (2000 + (v_X1_moment 1 μ15))) μ15); μ18))))))) (fun μ4 eμ4 => ?_)
    have fμ4 : Fr [1, 17, 25, 27, 28, 29, 3, 30, 4, 5, 6, 7] μ μ4 := by
      rw [eμ4]
      exact Fr.call Fr.rfl (fr_X3_note 1 μ) (by simp)
    refine lt_ (P := fun z => Fr [1, 17, 25, 27, 28, 29, 3, 30, 4, 5, 6, 7] μ z) (whl (fun s : Int32 × Int32 × Int32 × Int32 × Mm => bd_X11_morning_45  s.1 s.2.1 s.2.2.1 s.2.2.2.1 s.2.2.2.2) (fun s : Int32 × Int32 × Int32 × Int32 × Mm => (0, 0, s.2.2.2.2)) FU (0, 0, 0, 0, μ4)) (fun r6 : Int32 × Int32 × Mm => (let μ9 : Mm := (if (r6.1) ≤ 0 then (r6.2.2) else ((e_X3_commit  (r6.2.2))) : Mm); (let μ10 : Mm := (e_X9_clear  μ9); (let μ11 : Mm := (e_X10_begin  μ10); (let μ15 : Mm := (e_X10_add (if (r6.2.1) = 0 then 0 else 1 : Int64) μ11); (let μ18 : Mm := (e_X10_add (Int32.toInt64 (2000 + (v_X1_moment 1 μ15))) μ15); μ18)))))) (fun r6 er6 => ?_)
    have fr6 : Fr [1, 17, 25, 27, 28, 29, 3, 30, 4, 5, 6, 7] μ (r6.2.2) := by
      rw [er6]
      exact Fr.call fμ4 (fw_X11_morning_45  _) (by simp)
    refine lt_ (P := fun z => Fr [1, 17, 25, 27, 28, 29, 3, 30, 4, 5, 6, 7] μ z) ((if (r6.1) ≤ 0 then (r6.2.2) else ((e_X3_commit  (r6.2.2))) : Mm)) (fun μ9 : Mm => (let μ10 : Mm := (e_X9_clear  μ9); (let μ11 : Mm := (e_X10_begin  μ10); (let μ15 : Mm := (e_X10_add (if (r6.2.1) = 0 then 0 else 1 : Int64) μ11); (let μ18 : Mm := (e_X10_add (Int32.toInt64 (2000 + (v_X1_moment 1 μ15))) μ15); μ18))))) (fun μ9 eμ9 => ?_)
    have fμ9 : Fr [1, 17, 25, 27, 28, 29, 3, 30, 4, 5, 6, 7] μ μ9 := by
      rw [eμ9]
      repeat' (first | with_reducible assumption | with_reducible exact Fr.rfl | with_reducible refine Fr.ite ?_ ?_ | with_reducible refine Fr.up ?_ (by simp) | with_reducible refine Fr.upJ ?_ (by simp) | with_reducible refine Fr.call ?_ (fr_X10_add _ _) (by simp) | with_reducible refine Fr.call ?_ (fr_X10_begin _) (by simp) | with_reducible refine Fr.call ?_ (fr_X11_act _ _) (by simp) | with_reducible refine Fr.call ?_ (fr_X3_commit _) (by simp) | with_reducible refine Fr.call ?_ (fr_X3_note _ _) (by simp) | with_reducible refine Fr.call ?_ (fr_X9_clear _) (by simp) | with_reducible refine Fr.call ?_ (fw_X11_morning_45  _) (by simp))
    refine lt_ (P := fun z => Fr [1, 17, 25, 27, 28, 29, 3, 30, 4, 5, 6, 7] μ z) ((e_X9_clear  μ9)) (fun μ10 : Mm => (let μ11 : Mm := (e_X10_begin  μ10); (let μ15 : Mm := (e_X10_add (if (r6.2.1) = 0 then 0 else 1 : Int64) μ11); (let μ18 : Mm := (e_X10_add (Int32.toInt64 (2000 + (v_X1_moment 1 μ15))) μ15); μ18)))) (fun μ10 eμ10 => ?_)
    have fμ10 : Fr [1, 17, 25, 27, 28, 29, 3, 30, 4, 5, 6, 7] μ μ10 := by
      rw [eμ10]
      exact Fr.call fμ9 (fr_X9_clear μ9) (by simp)
    refine lt_ (P := fun z => Fr [1, 17, 25, 27, 28, 29, 3, 30, 4, 5, 6, 7] μ z) ((e_X10_begin  μ10)) (fun μ11 : Mm => (let μ15 : Mm := (e_X10_add (if (r6.2.1) = 0 then 0 else 1 : Int64) μ11); (let μ18 : Mm := (e_X10_add (Int32.toInt64 (2000 + (v_X1_moment 1 μ15))) μ15); μ18))) (fun μ11 eμ11 => ?_)
    have fμ11 : Fr [1, 17, 25, 27, 28, 29, 3, 30, 4, 5, 6, 7] μ μ11 := by
      rw [eμ11]
      exact Fr.call fμ10 (fr_X10_begin μ10) (by simp)
    refine lt_ (P := fun z => Fr [1, 17, 25, 27, 28, 29, 3, 30, 4, 5, 6, 7] μ z) ((e_X10_add (if (r6.2.1) = 0 then 0 else 1 : Int64) μ11)) (fun μ15 : Mm => (let μ18 : Mm := (e_X10_add (Int32.toInt64 (2000 + (v_X1_moment 1 μ15))) μ15); μ18)) (fun μ15 eμ15 => ?_)
    have fμ15 : Fr [1, 17, 25, 27, 28, 29, 3, 30, 4, 5, 6, 7] μ μ15 := by
      rw [eμ15]
      exact Fr.call fμ11 (fr_X10_add (if (r6.2.1) = 0 then 0 else 1 : Int64) μ11) (by simp)
    refine lt_ (P := fun z => Fr [1, 17, 25, 27, 28, 29, 3, 30, 4, 5, 6, 7] μ z) ((e_X10_add (Int32.toInt64 (2000 + (v_X1_moment 1 μ15))) μ15)) (fun μ18 : Mm => μ18) (fun μ18 eμ18 => ?_)
    have fμ18 : Fr [1, 17, 25, 27, 28, 29, 3, 30, 4, 5, 6, 7] μ μ18 := by
      rw [eμ18]
      exact Fr.call fμ15 (fr_X10_add (Int32.toInt64 (2000 + (v_X1_moment 1 μ15))) μ15) (by simp)
    exact fμ18
  · refine lt_ (P := fun z => Fr [1, 17, 25, 27, 28, 29, 3, 30, 4, 5, 6, 7] μ z) ((e_X9_clear  μ)) (fun μ20 : Mm => μ20) (fun μ20 eμ20 => ?_)
    have fμ20 : Fr [1, 17, 25, 27, 28, 29, 3, 30, 4, 5, 6, 7] μ μ20 := by
      rw [eμ20]
      exact Fr.call Fr.rfl (fr_X9_clear μ) (by simp)
    exact fμ20
set_option maxRecDepth 20000 in
set_option maxHeartbeats 400000 in
theorem fr_X12_does (p0 : Int32) (μ : Mm) : Fr [52, 59, 60, 62] μ (e_X12_does p0 μ) := by
  unfold e_X12_does
  refine Fr.ite ?_ ?_
  · refine lt_ (P := fun z => Fr [52, 59, 60, 62] μ z) ((e_X12_goesOn 52 (μ.1 64 (Int32.toNatClampNeg p0)) μ)) (fun μ6 : Mm => μ6) (fun μ6 eμ6 => ?_)
    have fμ6 : Fr [52, 59, 60, 62] μ μ6 := by
      rw [eμ6]
      exact Fr.call Fr.rfl (fr_X12_goesOn 52 (μ.1 64 (Int32.toNatClampNeg p0)) μ) (by simp)
    exact fμ6
  · refine Fr.ite ?_ ?_
    · refine lt_ (P := fun z => Fr [52, 59, 60, 62] μ z) ((e_X12_stepsOff 52 (μ.1 64 (Int32.toNatClampNeg p0)) μ)) (fun μ8 : Mm => μ8) (fun μ8 eμ8 => ?_)
      have fμ8 : Fr [52, 59, 60, 62] μ μ8 := by
        rw [eμ8]
        exact Fr.call Fr.rfl (fr_X12_stepsOff 52 (μ.1 64 (Int32.toNatClampNeg p0)) μ) (by simp)
      exact fμ8
    · refine Fr.ite ?_ ?_
      · refine lt_ (P := fun z => Fr [52, 59, 60, 62] μ z) ((e_X12_sacksTo (μ.1 64 (Int32.toNatClampNeg p0)) (μ.1 65 (Int32.toNatClampNeg p0)) μ)) (fun μ14 : Mm => μ14) (fun μ14 eμ14 => ?_)
        have fμ14 : Fr [52, 59, 60, 62] μ μ14 := by
          rw [eμ14]
          exact Fr.call Fr.rfl (fr_X12_sacksTo (μ.1 64 (Int32.toNatClampNeg p0)) (μ.1 65 (Int32.toNatClampNeg p0)) μ) (by simp)
        exact fμ14
      · refine Fr.ite ?_ ?_
        · refine lt_ (P := fun z => Fr [52, 59, 60, 62] μ z) ((e_X12_leadsTo (μ.1 64 (Int32.toNatClampNeg p0)) (μ.1 65 (Int32.toNatClampNeg p0)) μ)) (fun μ20 : Mm => μ20) (fun μ20 eμ20 => ?_)
          have fμ20 : Fr [52, 59, 60, 62] μ μ20 := by
            rw [eμ20]
            exact Fr.call Fr.rfl (fr_X12_leadsTo (μ.1 64 (Int32.toNatClampNeg p0)) (μ.1 65 (Int32.toNatClampNeg p0)) μ) (by simp)
          exact fμ20
        · refine lt_ (P := fun z => Fr [52, 59, 60, 62] μ z) ((e_X12_wishesTo (μ.1 64 (Int32.toNatClampNeg p0)) (μ.1 65 (Int32.toNatClampNeg p0)) μ)) (fun μ25 : Mm => μ25) (fun μ25 eμ25 => ?_)
          have fμ25 : Fr [52, 59, 60, 62] μ μ25 := by
            rw [eμ25]
            exact Fr.call Fr.rfl (fr_X12_wishesTo (μ.1 64 (Int32.toNatClampNeg p0)) (μ.1 65 (Int32.toNatClampNeg p0)) μ) (by simp)
          exact fμ25
set_option maxRecDepth 20000 in
set_option maxHeartbeats 400000 in
theorem fr_X12_goesToNoon  (μ : Mm) : Fr [53, 59, 60, 62] μ (e_X12_goesToNoon  μ) := by
  unfold e_X12_goesToNoon
  refine lt_ (P := fun z => Fr [53, 59, 60, 62] μ z) ((e_X12_copies  μ)) (fun μ2 : Mm => (let μ4 : Mm := (e_X12_goesOn 53 (if 0 < ((μ2.1 53 (Int32.toNatClampNeg 23)) - (μ2.1 53 (Int32.toNatClampNeg 22))) then ((μ2.1 53 (Int32.toNatClampNeg 23)) - (μ2.1 53 (Int32.toNatClampNeg 22))) else 0) μ2); μ4)) (fun μ2 eμ2 => ?_)
  have fμ2 : Fr [53, 59, 60, 62] μ μ2 := by
    rw [eμ2]
    exact Fr.call Fr.rfl (fr_X12_copies μ) (by simp)
  refine lt_ (P := fun z => Fr [53, 59, 60, 62] μ z) ((e_X12_goesOn 53 (if 0 < ((μ2.1 53 (Int32.toNatClampNeg 23)) - (μ2.1 53 (Int32.toNatClampNeg 22))) then ((μ2.1 53 (Int32.toNatClampNeg 23)) - (μ2.1 53 (Int32.toNatClampNeg 22))) else 0) μ2)) (fun μ4 : Mm => μ4) (fun μ4 eμ4 => ?_)
  have fμ4 : Fr [53, 59, 60, 62] μ μ4 := by
    rw [eμ4]
    exact Fr.call fμ2 (fr_X12_goesOn 53 (if 0 < ((μ2.1 53 (Int32.toNatClampNeg 23)) - (μ2.1 53 (Int32.toNatClampNeg 22))) then ((μ2.1 53 (Int32.toNatClampNeg 23)) - (μ2.1 53 (Int32.toNatClampNeg 22))) else 0) μ2) (by simp)
  exact fμ4
set_option maxRecDepth 20000 in
set_option maxHeartbeats 400000 in
theorem fr_X12_later (p0 : Int32) (p1 : Int32) (μ : Mm) : Fr [49, 50, 53, 59, 60, 62] μ (e_X12_later p0 p1 μ) := by
  unfold e_X12_later
  refine lt_ (P := fun z => Fr [49, 50, 53, 59, 60, 62] μ z) ((upI μ 49 0 0)) (fun μ1 : Mm => (if (v_X12_isOne p0 μ1) = 0 then μ1 else (if (v_X12_in (Int32.toInt64 p1) 0 60) = 0 then μ1 else (let μ5 : Mm := (e_X12_copies  μ1); (let μ7 : Mm := (e_X12_goesOn 53 p1 μ5); (let μ8 : Mm := (upI μ7 49 1 0); (let μ11 : Mm := (e_X12_enters (Int32.toInt64 (2000 + (v_X12_moment 53 μ8))) μ8); μ11))))))) (fun μ1 eμ1 => ?_)
  have fμ1 : Fr [49, 50, 53, 59, 60, 62] μ μ1 := by
    rw [eμ1]
    exact Fr.up Fr.rfl (by simp)
  refine Fr.ite ?_ ?_
  · exact fμ1
  · refine Fr.ite ?_ ?_
    · exact fμ1
    · refine lt_ (P := fun z => Fr [49, 50, 53, 59, 60, 62] μ z) ((e_X12_copies  μ1)) (fun μ5 : Mm => (let μ7 : Mm := (e_X12_goesOn 53 p1 μ5); (let μ8 : Mm := (upI μ7 49 1 0); (let μ11 : Mm := (e_X12_enters (Int32.toInt64 (2000 + (v_X12_moment 53 μ8))) μ8); μ11)))) (fun μ5 eμ5 => ?_)
      have fμ5 : Fr [49, 50, 53, 59, 60, 62] μ μ5 := by
        rw [eμ5]
        exact Fr.call fμ1 (fr_X12_copies μ1) (by simp)
      refine lt_ (P := fun z => Fr [49, 50, 53, 59, 60, 62] μ z) ((e_X12_goesOn 53 p1 μ5)) (fun μ7 : Mm => (let μ8 : Mm := (upI μ7 49 1 0); (let μ11 : Mm := (e_X12_enters (Int32.toInt64 (2000 + (v_X12_moment 53 μ8))) μ8); μ11))) (fun μ7 eμ7 => ?_)
      have fμ7 : Fr [49, 50, 53, 59, 60, 62] μ μ7 := by
        rw [eμ7]
        exact Fr.call fμ5 (fr_X12_goesOn 53 p1 μ5) (by simp)
      refine lt_ (P := fun z => Fr [49, 50, 53, 59, 60, 62] μ z) ((upI μ7 49 1 0)) (fun μ8 : Mm => (let μ11 : Mm := (e_X12_enters (Int32.toInt64 (2000 + (v_X12_moment 53 μ8))) μ8); μ11)) (fun μ8 eμ8 => ?_)
      have fμ8 : Fr [49, 50, 53, 59, 60, 62] μ μ8 := by
        rw [eμ8]
        exact Fr.up fμ7 (by simp)
      refine lt_ (P := fun z => Fr [49, 50, 53, 59, 60, 62] μ z) ((e_X12_enters (Int32.toInt64 (2000 + (v_X12_moment 53 μ8))) μ8)) (fun μ11 : Mm => μ11) (fun μ11 eμ11 => ?_)
      have fμ11 : Fr [49, 50, 53, 59, 60, 62] μ μ11 := by
        rw [eμ11]
        exact Fr.call fμ8 (fr_X12_enters (Int32.toInt64 (2000 + (v_X12_moment 53 μ8))) μ8) (by simp)
      exact fμ11
set_option maxRecDepth 20000 in
set_option maxHeartbeats 400000 in
theorem fr_X12_minutes (p0 : Int32) (μ : Mm) : Fr [49, 50, 52, 59, 60, 61, 62] μ (e_X12_minutes p0 μ) := by
  unfold e_X12_minutes
  refine lt_ (P := fun z => Fr [49, 50, 52, 59, 60, 61, 62] μ z) ((upI μ 49 0 0)) (fun μ1 : Mm => (if (v_X12_in (Int32.toInt64 p0) 0 60) = 0 then μ1 else (let μ4 : Mm := (e_X12_putsBy  μ1); (let μ6 : Mm := (e_X12_goesOn 52 p0 μ4); (let μ7 : Mm := (upI μ6 49 1 0); (let μ9 : Mm := (e_X12_enters (Int32.toInt64 (v_X12_goesOn 52 p0 μ4)) μ7); (let μ12 : Mm := (e_X12_enters (Int32.toInt64 (v_J6_bitCount_0f7a4 (v_X12_standingOn 52 9 μ9))) μ9); (let μ15 : Mm := (e_X12_enters (Int32.toInt64 (v_J6_bitCount_0f7a4 (v_X12_standingOn 52 (-9) μ12))) μ12); (let μ18 : Mm := (e_X12_adds (2000 + (v_X12_moment 52 μ15)) μ15); μ18))))))))) (fun μ1 eμ1 => ?_)
  have fμ1 : Fr [49, 50, 52, 59, 60, 61, 62] μ μ1 := by
    rw [eμ1]
    exact Fr.up Fr.rfl (by simp)
  refine Fr.ite ?_ ?_
  · exact fμ1
  · refine lt_ (P := fun z => Fr [49, 50, 52, 59, 60, 61, 62] μ z) ((e_X12_putsBy  μ1)) (fun μ4 : Mm => (let μ6 : Mm := (e_X12_goesOn 52 p0 μ4); (let μ7 : Mm := (upI μ6 49 1 0); (let μ9 : Mm := (e_X12_enters (Int32.toInt64 (v_X12_goesOn 52 p0 μ4)) μ7); (let μ12 : Mm := (e_X12_enters (Int32.toInt64 (v_J6_bitCount_0f7a4 (v_X12_standingOn 52 9 μ9))) μ9); (let μ15 : Mm := (e_X12_enters (Int32.toInt64 (v_J6_bitCount_0f7a4 (v_X12_standingOn 52 (-9) μ12))) μ12); (let μ18 : Mm := (e_X12_adds (2000 + (v_X12_moment 52 μ15)) μ15); μ18))))))) (fun μ4 eμ4 => ?_)
    have fμ4 : Fr [49, 50, 52, 59, 60, 61, 62] μ μ4 := by
      rw [eμ4]
      exact Fr.call fμ1 (fr_X12_putsBy μ1) (by simp)
    refine lt_ (P := fun z => Fr [49, 50, 52, 59, 60, 61, 62] μ z) ((e_X12_goesOn 52 p0 μ4)) (fun μ6 : Mm => (let μ7 : Mm := (upI μ6 49 1 0); (let μ9 : Mm := (e_X12_enters (Int32.toInt64 (v_X12_goesOn 52 p0 μ4)) μ7); (let μ12 : Mm := (e_X12_enters (Int32.toInt64 (v_J6_bitCount_0f7a4 (v_X12_standingOn 52 9 μ9))) μ9); (let μ15 : Mm := (e_X12_enters (Int32.toInt64 (v_J6_bitCount_0f7a4 (v_X12_standingOn 52 (-9) μ12))) μ12); (let μ18 : Mm := (e_X12_adds (2000 + (v_X12_moment 52 μ15)) μ15); μ18)))))) (fun μ6 eμ6 => ?_)
    have fμ6 : Fr [49, 50, 52, 59, 60, 61, 62] μ μ6 := by
      rw [eμ6]
      exact Fr.call fμ4 (fr_X12_goesOn 52 p0 μ4) (by simp)
    refine lt_ (P := fun z => Fr [49, 50, 52, 59, 60, 61, 62] μ z) ((upI μ6 49 1 0)) (fun μ7 : Mm => (let μ9 : Mm := (e_X12_enters (Int32.toInt64 (v_X12_goesOn 52 p0 μ4)) μ7); (let μ12 : Mm := (e_X12_enters (Int32.toInt64 (v_J6_bitCount_0f7a4 (v_X12_standingOn 52 9 μ9))) μ9); (let μ15 : Mm := (e_X12_enters (Int32.toInt64 (v_J6_bitCount_0f7a4 (v_X12_standingOn 52 (-9) μ12))) μ12); (let μ18 : Mm := (e_X12_adds (2000 + (v_X12_moment 52 μ15)) μ15); μ18))))) (fun μ7 eμ7 => ?_)
    have fμ7 : Fr [49, 50, 52, 59, 60, 61, 62] μ μ7 := by
      rw [eμ7]
      exact Fr.up fμ6 (by simp)
    refine lt_ (P := fun z => Fr [49, 50, 52, 59, 60, 61, 62] μ z) ((e_X12_enters (Int32.toInt64 (v_X12_goesOn 52 p0 μ4)) μ7)) (fun μ9 : Mm => (let μ12 : Mm := (e_X12_enters (Int32.toInt64 (v_J6_bitCount_0f7a4 (v_X12_standingOn 52 9 μ9))) μ9); (let μ15 : Mm := (e_X12_enters (Int32.toInt64 (v_J6_bitCount_0f7a4 (v_X12_standingOn 52 (-9) μ12))) μ12); (let μ18 : Mm := (e_X12_adds (2000 + (v_X12_moment 52 μ15)) μ15); μ18)))) (fun μ9 eμ9 => ?_)
    have fμ9 : Fr [49, 50, 52, 59, 60, 61, 62] μ μ9 := by
      rw [eμ9]
      exact Fr.call fμ7 (fr_X12_enters (Int32.toInt64 (v_X12_goesOn 52 p0 μ4)) μ7) (by simp)
    refine lt_ (P := fun z => Fr [49, 50, 52, 59, 60, 61, 62] μ z) ((e_X12_enters (Int32.toInt64 (v_J6_bitCount_0f7a4 (v_X12_standingOn 52 9 μ9))) μ9)) (fun μ12 : Mm => (let μ15 : Mm := (e_X12_enters (Int32.toInt64 (v_J6_bitCount_0f7a4 (v_X12_standingOn 52 (-9) μ12))) μ12); (let μ18 : Mm := (e_X12_adds (2000 + (v_X12_moment 52 μ15)) μ15); μ18))) (fun μ12 eμ12 => ?_)
    have fμ12 : Fr [49, 50, 52, 59, 60, 61, 62] μ μ12 := by
      rw [eμ12]
      exact Fr.call fμ9 (fr_X12_enters (Int32.toInt64 (v_J6_bitCount_0f7a4 (v_X12_standingOn 52 9 μ9))) μ9) (by simp)
    refine lt_ (P := fun z => Fr [49, 50, 52, 59, 60, 61, 62] μ z) ((e_X12_enters (Int32.toInt64 (v_J6_bitCount_0f7a4 (v_X12_standingOn 52 (-9) μ12))) μ12)) (fun μ15 : Mm => (let μ18 : Mm := (e_X12_adds (2000 + (v_X12_moment 52 μ15)) μ15); μ18)) (fun μ15 eμ15 => ?_)
    have fμ15 : Fr [49, 50, 52, 59, 60, 61, 62] μ μ15 := by
      rw [eμ15]
      exact Fr.call fμ12 (fr_X12_enters (Int32.toInt64 (v_J6_bitCount_0f7a4 (v_X12_standingOn 52 (-9) μ12))) μ12) (by simp)
    refine lt_ (P := fun z => Fr [49, 50, 52, 59, 60, 61, 62] μ z) ((e_X12_adds (2000 + (v_X12_moment 52 μ15)) μ15)) (fun μ18 : Mm => μ18) (fun μ18 eμ18 => ?_)
    have fμ18 : Fr [49, 50, 52, 59, 60, 61, 62] μ μ18 := by
      rw [eμ18]
      exact Fr.call fμ15 (fr_X12_adds (2000 + (v_X12_moment 52 μ15)) μ15) (by simp)
    exact fμ18
set_option maxRecDepth 20000 in
set_option maxHeartbeats 400000 in
theorem fr_X12_readsAct  (μ : Mm) : Fr [49, 63, 64, 65] μ (e_X12_readsAct  μ) := by
  unfold e_X12_readsAct
  refine lt_ (P := fun z => Fr [49, 63, 64, 65] μ z) ((e_X12_takesOf 6 μ)) (fun μ2 : Mm => (let μ4 : Mm := (upI μ2 63 (Int32.toNatClampNeg (μ.1 49 29)) (v_X12_takesOf 6 μ)); (let μ5 : Mm := (upI μ4 49 29 ((μ4.1 49 29) + 1)); (let μ10 : Mm := (if 0 ≤ (μ5.1 63 (Int32.toNatClampNeg (μ.1 49 29))) then ((e_X12_number 1 μ5)) else μ5 : Mm); (let μ12 : Mm := (upI μ10 64 (Int32.toNatClampNeg (μ.1 49 29)) (if 0 ≤ (μ5.1 63 (Int32.toNatClampNeg (μ.1 49 29))) then (v_X12_number 1 μ5) else (-1) : Int32)); (if (μ12.1 64 (Int32.toNatClampNeg (μ.1 49 29))) < 0 then μ12 else (if 2 ≤ (μ12.1 63 (Int32.toNatClampNeg (μ.1 49 29))) then (if (μ12.1 63 (Int32.toNatClampNeg (μ.1 49 29))) = 2 then (let μ23 : Mm := (e_X12_number 1 μ12); (let μ25 : Mm := (upI μ23 65 (Int32.toNatClampNeg (μ.1 49 29)) (v_X12_number 1 μ12)); μ25)) else (let μ33 : Mm := (e_X12_readsSigned (if (μ12.1 63 (Int32.toNatClampNeg (μ.1 49 29))) = 3 then 2 else 1 : Nat) μ12); (let μ35 : Mm := (upI μ33 65 (Int32.toNatClampNeg (μ.1 49 29)) (μ33.1 49 13)); μ35))) else μ12))))))) (fun μ2 eμ2 => ?_)
  have fμ2 : Fr [49, 63, 64, 65] μ μ2 := by
    rw [eμ2]
    exact Fr.call Fr.rfl (fr_X12_takesOf 6 μ) (by simp)
  refine lt_ (P := fun z => Fr [49, 63, 64, 65] μ z) ((upI μ2 63 (Int32.toNatClampNeg (μ.1 49 29)) (v_X12_takesOf 6 μ))) (fun μ4 : Mm => (let μ5 : Mm := (upI μ4 49 29 ((μ4.1 49 29) + 1)); (let μ10 : Mm := (if 0 ≤ (μ5.1 63 (Int32.toNatClampNeg (μ.1 49 29))) then ((e_X12_number 1 μ5)) else μ5 : Mm); (let μ12 : Mm := (upI μ10 64 (Int32.toNatClampNeg (μ.1 49 29)) (if 0 ≤ (μ5.1 63 (Int32.toNatClampNeg (μ.1 49 29))) then (v_X12_number 1 μ5) else (-1) : Int32)); (if (μ12.1 64 (Int32.toNatClampNeg (μ.1 49 29))) < 0 then μ12 else (if 2 ≤ (μ12.1 63 (Int32.toNatClampNeg (μ.1 49 29))) then (if (μ12.1 63 (Int32.toNatClampNeg (μ.1 49 29))) = 2 then (let μ23 : Mm := (e_X12_number 1 μ12); (let μ25 : Mm := (upI μ23 65 (Int32.toNatClampNeg (μ.1 49 29)) (v_X12_number 1 μ12)); μ25)) else (let μ33 : Mm := (e_X12_readsSigned (if (μ12.1 63 (Int32.toNatClampNeg (μ.1 49 29))) = 3 then 2 else 1 : Nat) μ12); (let μ35 : Mm := (upI μ33 65 (Int32.toNatClampNeg (μ.1 49 29)) (μ33.1 49 13)); μ35))) else μ12)))))) (fun μ4 eμ4 => ?_)
  have fμ4 : Fr [49, 63, 64, 65] μ μ4 := by
    rw [eμ4]
    exact Fr.up fμ2 (by simp)
  refine lt_ (P := fun z => Fr [49, 63, 64, 65] μ z) ((upI μ4 49 29 ((μ4.1 49 29) + 1))) (fun μ5 : Mm => (let μ10 : Mm := (if 0 ≤ (μ5.1 63 (Int32.toNatClampNeg (μ.1 49 29))) then ((e_X12_number 1 μ5)) else μ5 : Mm); (let μ12 : Mm := (upI μ10 64 (Int32.toNatClampNeg (μ.1 49 29)) (if 0 ≤ (μ5.1 63 (Int32.toNatClampNeg (μ.1 49 29))) then (v_X12_number 1 μ5) else (-1) : Int32)); (if (μ12.1 64 (Int32.toNatClampNeg (μ.1 49 29))) < 0 then μ12 else (if 2 ≤ (μ12.1 63 (Int32.toNatClampNeg (μ.1 49 29))) then (if (μ12.1 63 (Int32.toNatClampNeg (μ.1 49 29))) = 2 then (let μ23 : Mm := (e_X12_number 1 μ12); (let μ25 : Mm := (upI μ23 65 (Int32.toNatClampNeg (μ.1 49 29)) (v_X12_number 1 μ12)); μ25)) else (let μ33 : Mm := (e_X12_readsSigned (if (μ12.1 63 (Int32.toNatClampNeg (μ.1 49 29))) = 3 then 2 else 1 : Nat) μ12); (let μ35 : Mm := (upI μ33 65 (Int32.toNatClampNeg (μ.1 49 29)) (μ33.1 49 13)); μ35))) else μ12))))) (fun μ5 eμ5 => ?_)
  have fμ5 : Fr [49, 63, 64, 65] μ μ5 := by
    rw [eμ5]
    exact Fr.up fμ4 (by simp)
  refine lt_ (P := fun z => Fr [49, 63, 64, 65] μ z) ((if 0 ≤ (μ5.1 63 (Int32.toNatClampNeg (μ.1 49 29))) then ((e_X12_number 1 μ5)) else μ5 : Mm)) (fun μ10 : Mm => (let μ12 : Mm := (upI μ10 64 (Int32.toNatClampNeg (μ.1 49 29)) (if 0 ≤ (μ5.1 63 (Int32.toNatClampNeg (μ.1 49 29))) then (v_X12_number 1 μ5) else (-1) : Int32)); (if (μ12.1 64 (Int32.toNatClampNeg (μ.1 49 29))) < 0 then μ12 else (if 2 ≤ (μ12.1 63 (Int32.toNatClampNeg (μ.1 49 29))) then (if (μ12.1 63 (Int32.toNatClampNeg (μ.1 49 29))) = 2 then (let μ23 : Mm := (e_X12_number 1 μ12); (let μ25 : Mm := (upI μ23 65 (Int32.toNatClampNeg (μ.1 49 29)) (v_X12_number 1 μ12)); μ25)) else (let μ33 : Mm := (e_X12_readsSigned (if (μ12.1 63 (Int32.toNatClampNeg (μ.1 49 29))) = 3 then 2 else 1 : Nat) μ12); (let μ35 : Mm := (upI μ33 65 (Int32.toNatClampNeg (μ.1 49 29)) (μ33.1 49 13)); μ35))) else μ12)))) (fun μ10 eμ10 => ?_)
  have fμ10 : Fr [49, 63, 64, 65] μ μ10 := by
    rw [eμ10]
    repeat' (first | with_reducible assumption | with_reducible exact Fr.rfl | with_reducible refine Fr.ite ?_ ?_ | with_reducible refine Fr.up ?_ (by simp) | with_reducible refine Fr.upJ ?_ (by simp) | with_reducible refine Fr.call ?_ (fr_X12_number _ _) (by simp) | with_reducible refine Fr.call ?_ (fr_X12_readsSigned _ _) (by simp) | with_reducible refine Fr.call ?_ (fr_X12_takesOf _ _) (by simp))
  refine lt_ (P := fun z => Fr [49, 63, 64, 65] μ z) ((upI μ10 64 (Int32.toNatClampNeg (μ.1 49 29)) (if 0 ≤ (μ5.1 63 (Int32.toNatClampNeg (μ.1 49 29))) then (v_X12_number 1 μ5) else (-1) : Int32))) (fun μ12 : Mm => (if (μ12.1 64 (Int32.toNatClampNeg (μ.1 49 29))) < 0 then μ12 else (if 2 ≤ (μ12.1 63 (Int32.toNatClampNeg (μ.1 49 29))) then (if (μ12.1 63 (Int32.toNatClampNeg (μ.1 49 29))) = 2 then (let μ23 : Mm := (e_X12_number 1 μ12); (let μ25 : Mm := (upI μ23 65 (Int32.toNatClampNeg (μ.1 49 29)) (v_X12_number 1 μ12)); μ25)) else (let μ33 : Mm := (e_X12_readsSigned (if (μ12.1 63 (Int32.toNatClampNeg (μ.1 49 29))) = 3 then 2 else 1 : Nat) μ12); (let μ35 : Mm := (upI μ33 65 (Int32.toNatClampNeg (μ.1 49 29)) (μ33.1 49 13)); μ35))) else μ12))) (fun μ12 eμ12 => ?_)
  have fμ12 : Fr [49, 63, 64, 65] μ μ12 := by
    rw [eμ12]
    exact Fr.up fμ10 (by simp)
  refine Fr.ite ?_ ?_
  · exact fμ12
  · refine Fr.ite ?_ ?_
    · refine Fr.ite ?_ ?_
      · refine lt_ (P := fun z => Fr [49, 63, 64, 65] μ z) ((e_X12_number 1 μ12)) (fun μ23 : Mm => (let μ25 : Mm := (upI μ23 65 (Int32.toNatClampNeg (μ.1 49 29)) (v_X12_number 1 μ12)); μ25)) (fun μ23 eμ23 => ?_)
        have fμ23 : Fr [49, 63, 64, 65] μ μ23 := by
          rw [eμ23]
          exact Fr.call fμ12 (fr_X12_number 1 μ12) (by simp)
        refine lt_ (P := fun z => Fr [49, 63, 64, 65] μ z) ((upI μ23 65 (Int32.toNatClampNeg (μ.1 49 29)) (v_X12_number 1 μ12))) (fun μ25 : Mm => μ25) (fun μ25 eμ25 => ?_)
        have fμ25 : Fr [49, 63, 64, 65] μ μ25 := by
          rw [eμ25]
          exact Fr.up fμ23 (by simp)
        exact fμ25
      · refine lt_ (P := fun z => Fr [49, 63, 64, 65] μ z) ((e_X12_readsSigned (if (μ12.1 63 (Int32.toNatClampNeg (μ.1 49 29))) = 3 then 2 else 1 : Nat) μ12)) (fun μ33 : Mm => (let μ35 : Mm := (upI μ33 65 (Int32.toNatClampNeg (μ.1 49 29)) (μ33.1 49 13)); μ35)) (fun μ33 eμ33 => ?_)
        have fμ33 : Fr [49, 63, 64, 65] μ μ33 := by
          rw [eμ33]
          exact Fr.call fμ12 (fr_X12_readsSigned (if (μ12.1 63 (Int32.toNatClampNeg (μ.1 49 29))) = 3 then 2 else 1 : Nat) μ12) (by simp)
        refine lt_ (P := fun z => Fr [49, 63, 64, 65] μ z) ((upI μ33 65 (Int32.toNatClampNeg (μ.1 49 29)) (μ33.1 49 13))) (fun μ35 : Mm => μ35) (fun μ35 eμ35 => ?_)
        have fμ35 : Fr [49, 63, 64, 65] μ μ35 := by
          rw [eμ35]
          exact Fr.up fμ33 (by simp)
        exact fμ35
    · exact fμ12
set_option maxRecDepth 20000 in
set_option maxHeartbeats 400000 in
theorem fr_X12_readsOne  (μ : Mm) : Fr [49, 55, 56] μ (e_X12_readsOne  μ) := by
  unfold e_X12_readsOne
  refine Fr.ite ?_ ?_
  · exact Fr.rfl
  · refine lt_ (P := fun z => Fr [49, 55, 56] μ z) ((e_X12_digitIn 1 9 μ)) (fun μ3 : Mm => (let μ5 : Mm := (upI μ3 55 (Int32.toNatClampNeg (μ.1 49 16)) (v_X12_digitIn 1 9 μ)); (if (μ5.1 55 (Int32.toNatClampNeg (μ5.1 49 16))) < 0 then μ5 else (let μ9 : Mm := (e_X12_readsSigned 1 μ5); (if (v_X12_readsSigned 1 μ5) = 0 then μ9 else (let μ12 : Mm := (upI μ9 56 (Int32.toNatClampNeg (μ9.1 49 16)) (μ9.1 49 13)); (let μ13 : Mm := (upI μ12 49 16 ((μ12.1 49 16) + 1)); μ13))))))) (fun μ3 eμ3 => ?_)
    have fμ3 : Fr [49, 55, 56] μ μ3 := by
      rw [eμ3]
      exact Fr.call Fr.rfl (fr_X12_digitIn 1 9 μ) (by simp)
    refine lt_ (P := fun z => Fr [49, 55, 56] μ z) ((upI μ3 55 (Int32.toNatClampNeg (μ.1 49 16)) (v_X12_digitIn 1 9 μ))) (fun μ5 : Mm => (if (μ5.1 55 (Int32.toNatClampNeg (μ5.1 49 16))) < 0 then μ5 else (let μ9 : Mm := (e_X12_readsSigned 1 μ5); (if (v_X12_readsSigned 1 μ5) = 0 then μ9 else (let μ12 : Mm := (upI μ9 56 (Int32.toNatClampNeg (μ9.1 49 16)) (μ9.1 49 13)); (let μ13 : Mm := (upI μ12 49 16 ((μ12.1 49 16) + 1)); μ13)))))) (fun μ5 eμ5 => ?_)
    have fμ5 : Fr [49, 55, 56] μ μ5 := by
      rw [eμ5]
      exact Fr.up fμ3 (by simp)
    refine Fr.ite ?_ ?_
    · exact fμ5
    · refine lt_ (P := fun z => Fr [49, 55, 56] μ z) ((e_X12_readsSigned 1 μ5)) (fun μ9 : Mm => (if (v_X12_readsSigned 1 μ5) = 0 then μ9 else (let μ12 : Mm := (upI μ9 56 (Int32.toNatClampNeg (μ9.1 49 16)) (μ9.1 49 13)); (let μ13 : Mm := (upI μ12 49 16 ((μ12.1 49 16) + 1)); μ13)))) (fun μ9 eμ9 => ?_)
      have fμ9 : Fr [49, 55, 56] μ μ9 := by
        rw [eμ9]
        exact Fr.call fμ5 (fr_X12_readsSigned 1 μ5) (by simp)
      refine Fr.ite ?_ ?_
      · exact fμ9
      · refine lt_ (P := fun z => Fr [49, 55, 56] μ z) ((upI μ9 56 (Int32.toNatClampNeg (μ9.1 49 16)) (μ9.1 49 13))) (fun μ12 : Mm => (let μ13 : Mm := (upI μ12 49 16 ((μ12.1 49 16) + 1)); μ13)) (fun μ12 eμ12 => ?_)
        have fμ12 : Fr [49, 55, 56] μ μ12 := by
          rw [eμ12]
          exact Fr.up fμ9 (by simp)
        refine lt_ (P := fun z => Fr [49, 55, 56] μ z) ((upI μ12 49 16 ((μ12.1 49 16) + 1))) (fun μ13 : Mm => μ13) (fun μ13 eμ13 => ?_)
        have fμ13 : Fr [49, 55, 56] μ μ13 := by
          rw [eμ13]
          exact Fr.up fμ12 (by simp)
        exact fμ13
set_option maxRecDepth 20000 in
set_option maxHeartbeats 400000 in
theorem fw_X12_wishesOf_4  (s : Int32 × Int32 × Int32 × Mm) : Fr [53, 59, 60, 62, 70] (s.2.2.2) ((whl (fun s : Int32 × Int32 × Int32 × Mm => bd_X12_wishesOf_4  s.1 s.2.1 s.2.2.1 s.2.2.2) (fun s : Int32 × Int32 × Int32 × Mm => (0, s.2.2.2)) FU s).2) := by
  have key : ∀ s : Int32 × Int32 × Int32 × Mm, FrS [53, 59, 60, 62, 70] (s.2.2.2) (fun s : Int32 × Int32 × Int32 × Mm => s.2.2.2) (fun r : Int32 × Mm => r.2) ((fun s : Int32 × Int32 × Int32 × Mm => bd_X12_wishesOf_4  s.1 s.2.1 s.2.2.1 s.2.2.2) s) := by
    rintro ⟨x1, x2, x3, μ⟩
    show FrS [53, 59, 60, 62, 70] μ (fun s : Int32 × Int32 × Int32 × Mm => s.2.2.2) (fun r : Int32 × Mm => r.2) (bd_X12_wishesOf_4  x1 x2 x3 μ)
    unfold bd_X12_wishesOf_4
    refine FrS.ite ?_ ?_
    · exact FrS.inr Fr.rfl
    · refine lt_ (P := fun z => FrS [53, 59, 60, 62, 70] μ (fun s : Int32 × Int32 × Int32 × Mm => s.2.2.2) (fun r : Int32 × Mm => r.2) z) ((e_X12_isAsSeen x1 x3 μ)) (fun μ3 : Mm => .inl (x1, (x2 ||| (if (v_X12_isAsSeen x1 x3 μ) = 0 then 0 else (1 <<< (x3 &&& 31)) : Int32)), (x3 + 1), μ3)) (fun μ3 eμ3 => ?_)
      have fμ3 : Fr [53, 59, 60, 62, 70] μ μ3 := by
        rw [eμ3]
        exact Fr.call Fr.rfl (fr_X12_isAsSeen x1 x3 μ) (by simp)
      exact FrS.inl fμ3
  exact Fr_whlK (S := [53, 59, 60, 62, 70]) (f := (fun s : Int32 × Int32 × Int32 × Mm => bd_X12_wishesOf_4  s.1 s.2.1 s.2.2.1 s.2.2.2)) (dd := (fun s : Int32 × Int32 × Int32 × Mm => (0, s.2.2.2))) (fun s : Int32 × Int32 × Int32 × Mm => s.2.2.2) (fun r : Int32 × Mm => r.2) (fun _ => rfl) key FU s
set_option maxRecDepth 20000 in
set_option maxHeartbeats 400000 in
theorem fr_X12_wishesOf (p0 : Int32) (μ : Mm) : Fr [53, 59, 60, 62, 70] μ (e_X12_wishesOf p0 μ) := by
  unfold e_X12_wishesOf
  refine lt_ (P := fun z => Fr [53, 59, 60, 62, 70] μ z) (whl (fun s : Int32 × Int32 × Int32 × Mm => bd_X12_wishesOf_4  s.1 s.2.1 s.2.2.1 s.2.2.2) (fun s : Int32 × Int32 × Int32 × Mm => (0, s.2.2.2)) FU (p0, 0, 0, μ)) (fun r2 : Int32 × Mm => (r2.2)) (fun r2 er2 => ?_)
  have fr2 : Fr [53, 59, 60, 62, 70] μ (r2.2) := by
    rw [er2]
    exact Fr.call Fr.rfl (fw_X12_wishesOf_4  _) (by simp)
  exact fr2
set_option maxRecDepth 20000 in
set_option maxHeartbeats 400000 in
theorem fr_X12_cares (p0 : Int32) (μ : Mm) : Fr [49, 50, 53, 59, 60, 62, 70] μ (e_X12_cares p0 μ) := by
  unfold e_X12_cares
  refine lt_ (P := fun z => Fr [49, 50, 53, 59, 60, 62, 70] μ z) ((upI μ 49 0 0)) (fun μ1 : Mm => (if (v_X12_isOne p0 μ1) = 0 then μ1 else (let μ4 : Mm := (e_X12_wishesOf p0 μ1); (let μ5 : Mm := (upI μ4 49 1 0); (let μ7 : Mm := (e_X12_enters (Int32.toInt64 (v_J6_bitCount_0f7a4 (v_X12_wishesOf p0 μ1))) μ5); (let μ13 : Mm := (if (v_X12_wishesOf p0 μ1) = 0 then μ7 else ((e_X12_enters (Int32.toInt64 (122 - (v_J6_numberOfLeadingZeros_0f7a4 (v_X12_wishesOf p0 μ1)))) ((e_X12_enters (Int32.toInt64 (91 + (v_J6_numberOfTrailingZeros_0f7a4 (v_X12_wishesOf p0 μ1)))) μ7)))) : Mm); μ13)))))) (fun μ1 eμ1 => ?_)
  have fμ1 : Fr [49, 50, 53, 59, 60, 62, 70] μ μ1 := by
    rw [eμ1]
    exact Fr.up Fr.rfl (by simp)
  refine Fr.ite ?_ ?_
  · exact fμ1
  · refine lt_ (P := fun z => Fr [49, 50, 53, 59, 60, 62, 70] μ z) ((e_X12_wishesOf p0 μ1)) (fun μ4 : Mm => (let μ5 : Mm := (upI μ4 49 1 0); (let μ7 : Mm := (e_X12_enters (Int32.toInt64 (v_J6_bitCount_0f7a4 (v_X12_wishesOf p0 μ1))) μ5); (let μ13 : Mm := (if (v_X12_wishesOf p0 μ1) = 0 then μ7 else ((e_X12_enters (Int32.toInt64 (122 - (v_J6_numberOfLeadingZeros_0f7a4 (v_X12_wishesOf p0 μ1)))) ((e_X12_enters (Int32.toInt64 (91 + (v_J6_numberOfTrailingZeros_0f7a4 (v_X12_wishesOf p0 μ1)))) μ7)))) : Mm); μ13)))) (fun μ4 eμ4 => ?_)
    have fμ4 : Fr [49, 50, 53, 59, 60, 62, 70] μ μ4 := by
      rw [eμ4]
      exact Fr.call fμ1 (fr_X12_wishesOf p0 μ1) (by simp)
    refine lt_ (P := fun z => Fr [49, 50, 53, 59, 60, 62, 70] μ z) ((upI μ4 49 1 0)) (fun μ5 : Mm => (let μ7 : Mm := (e_X12_enters (Int32.toInt64 (v_J6_bitCount_0f7a4 (v_X12_wishesOf p0 μ1))) μ5); (let μ13 : Mm := (if (v_X12_wishesOf p0 μ1) = 0 then μ7 else ((e_X12_enters (Int32.toInt64 (122 - (v_J6_numberOfLeadingZeros_0f7a4 (v_X12_wishesOf p0 μ1)))) ((e_X12_enters (Int32.toInt64 (91 + (v_J6_numberOfTrailingZeros_0f7a4 (v_X12_wishesOf p0 μ1)))) μ7)))) : Mm); μ13))) (fun μ5 eμ5 => ?_)
    have fμ5 : Fr [49, 50, 53, 59, 60, 62, 70] μ μ5 := by
      rw [eμ5]
      exact Fr.up fμ4 (by simp)
    refine lt_ (P := fun z => Fr [49, 50, 53, 59, 60, 62, 70] μ z) ((e_X12_enters (Int32.toInt64 (v_J6_bitCount_0f7a4 (v_X12_wishesOf p0 μ1))) μ5)) (fun μ7 : Mm => (let μ13 : Mm := (if (v_X12_wishesOf p0 μ1) = 0 then μ7 else ((e_X12_enters (Int32.toInt64 (122 - (v_J6_numberOfLeadingZeros_0f7a4 (v_X12_wishesOf p0 μ1)))) ((e_X12_enters (Int32.toInt64 (91 + (v_J6_numberOfTrailingZeros_0f7a4 (v_X12_wishesOf p0 μ1)))) μ7)))) : Mm); μ13)) (fun μ7 eμ7 => ?_)
    have fμ7 : Fr [49, 50, 53, 59, 60, 62, 70] μ μ7 := by
      rw [eμ7]
      exact Fr.call fμ5 (fr_X12_enters (Int32.toInt64 (v_J6_bitCount_0f7a4 (v_X12_wishesOf p0 μ1))) μ5) (by simp)
    refine lt_ (P := fun z => Fr [49, 50, 53, 59, 60, 62, 70] μ z) ((if (v_X12_wishesOf p0 μ1) = 0 then μ7 else ((e_X12_enters (Int32.toInt64 (122 - (v_J6_numberOfLeadingZeros_0f7a4 (v_X12_wishesOf p0 μ1)))) ((e_X12_enters (Int32.toInt64 (91 + (v_J6_numberOfTrailingZeros_0f7a4 (v_X12_wishesOf p0 μ1)))) μ7)))) : Mm)) (fun μ13 : Mm => μ13) (fun μ13 eμ13 => ?_)
    have fμ13 : Fr [49, 50, 53, 59, 60, 62, 70] μ μ13 := by
      rw [eμ13]
      repeat' (first | with_reducible assumption | with_reducible exact Fr.rfl | with_reducible refine Fr.ite ?_ ?_ | with_reducible refine Fr.up ?_ (by simp) | with_reducible refine Fr.upJ ?_ (by simp) | with_reducible refine Fr.call ?_ (fr_X12_enters _ _) (by simp) | with_reducible refine Fr.call ?_ (fr_X12_wishesOf _ _) (by simp))
    exact fμ13
set_option maxRecDepth 20000 in
set_option maxHeartbeats 400000 in
theorem fr_X12_decides  (μ : Mm) : Fr [49, 50, 53, 59, 60, 62] μ (e_X12_decides  μ) := by
  unfold e_X12_decides
  refine lt_ (P := fun z => Fr [49, 50, 53, 59, 60, 62] μ z) ((upI μ 49 0 0)) (fun μ1 : Mm => (let μ3 : Mm := (e_X12_goesToNoon  μ1); (let μ4 : Mm := (upI μ3 49 1 0); (let μ7 : Mm := (e_X12_enters (Int32.toInt64 (2000 + (v_X12_moment 53 μ4))) μ4); (let μ9 : Mm := (e_X12_entersPlaces  μ7); μ9))))) (fun μ1 eμ1 => ?_)
  have fμ1 : Fr [49, 50, 53, 59, 60, 62] μ μ1 := by
    rw [eμ1]
    exact Fr.up Fr.rfl (by simp)
  refine lt_ (P := fun z => Fr [49, 50, 53, 59, 60, 62] μ z) ((e_X12_goesToNoon  μ1)) (fun μ3 : Mm => (let μ4 : Mm := (upI μ3 49 1 0); (let μ7 : Mm := (e_X12_enters (Int32.toInt64 (2000 + (v_X12_moment 53 μ4))) μ4); (let μ9 : Mm := (e_X12_entersPlaces  μ7); μ9)))) (fun μ3 eμ3 => ?_)
  have fμ3 : Fr [49, 50, 53, 59, 60, 62] μ μ3 := by
    rw [eμ3]
    exact Fr.call fμ1 (fr_X12_goesToNoon μ1) (by simp)
  refine lt_ (P := fun z => Fr [49, 50, 53, 59, 60, 62] μ z) ((upI μ3 49 1 0)) (fun μ4 : Mm => (let μ7 : Mm := (e_X12_enters (Int32.toInt64 (2000 + (v_X12_moment 53 μ4))) μ4); (let μ9 : Mm := (e_X12_entersPlaces  μ7); μ9))) (fun μ4 eμ4 => ?_)
  have fμ4 : Fr [49, 50, 53, 59, 60, 62] μ μ4 := by
    rw [eμ4]
    exact Fr.up fμ3 (by simp)
  refine lt_ (P := fun z => Fr [49, 50, 53, 59, 60, 62] μ z) ((e_X12_enters (Int32.toInt64 (2000 + (v_X12_moment 53 μ4))) μ4)) (fun μ7 : Mm => (let μ9 : Mm := (e_X12_entersPlaces  μ7); μ9)) (fun μ7 eμ7 => ?_)
  have fμ7 : Fr [49, 50, 53, 59, 60, 62] μ μ7 := by
    rw [eμ7]
    exact Fr.call fμ4 (fr_X12_enters (Int32.toInt64 (2000 + (v_X12_moment 53 μ4))) μ4) (by simp)
  refine lt_ (P := fun z => Fr [49, 50, 53, 59, 60, 62] μ z) ((e_X12_entersPlaces  μ7)) (fun μ9 : Mm => μ9) (fun μ9 eμ9 => ?_)
  have fμ9 : Fr [49, 50, 53, 59, 60, 62] μ μ9 := by
    rw [eμ9]
    exact Fr.call fμ7 (fr_X12_entersPlaces μ7) (by simp)
  exact fμ9
set_option maxRecDepth 20000 in
set_option maxHeartbeats 400000 in
theorem fr_X12_looks (p0 : Int32) (μ : Mm) : Fr [49, 50, 53, 59, 60, 62, 70] μ (e_X12_looks p0 μ) := by
  unfold e_X12_looks
  refine lt_ (P := fun z => Fr [49, 50, 53, 59, 60, 62, 70] μ z) ((upI μ 49 0 0)) (fun μ1 : Mm => (if (v_X12_isOne p0 μ1) = 0 then μ1 else (let μ4 : Mm := (e_X12_wishesOf p0 μ1); (if (v_X12_wishesOf p0 μ1) = 0 then μ4 else (let r7 : Int32 × Int32 := whl (fun s : Int32 × Int32 × Int32 × Int32 => bd_X12_looks_38  μ4 s.1 s.2.1 s.2.2.1 s.2.2.2) (fun _ : Int32 × Int32 × Int32 × Int32 => (0, 0)) FU ((v_X12_wishesOf p0 μ1), (-1), 1000000, 0); (let μ8 : Mm := (upI μ4 49 1 0); (let μ10 : Mm := (e_X12_enters (Int32.toInt64 (r7.2)) μ8); μ10))))))) (fun μ1 eμ1 => ?_)
  have fμ1 : Fr [49, 50, 53, 59, 60, 62, 70] μ μ1 := by
    rw [eμ1]
    exact Fr.up Fr.rfl (by simp)
  refine Fr.ite ?_ ?_
  · exact fμ1
  · refine lt_ (P := fun z => Fr [49, 50, 53, 59, 60, 62, 70] μ z) ((e_X12_wishesOf p0 μ1)) (fun μ4 : Mm => (if (v_X12_wishesOf p0 μ1) = 0 then μ4 else (let r7 : Int32 × Int32 := whl (fun s : Int32 × Int32 × Int32 × Int32 => bd_X12_looks_38  μ4 s.1 s.2.1 s.2.2.1 s.2.2.2) (fun _ : Int32 × Int32 × Int32 × Int32 => (0, 0)) FU ((v_X12_wishesOf p0 μ1), (-1), 1000000, 0); (let μ8 : Mm := (upI μ4 49 1 0); (let μ10 : Mm := (e_X12_enters (Int32.toInt64 (r7.2)) μ8); μ10))))) (fun μ4 eμ4 => ?_)
    have fμ4 : Fr [49, 50, 53, 59, 60, 62, 70] μ μ4 := by
      rw [eμ4]
      exact Fr.call fμ1 (fr_X12_wishesOf p0 μ1) (by simp)
    refine Fr.ite ?_ ?_
    · exact fμ4
    · refine lt_ (P := fun z => Fr [49, 50, 53, 59, 60, 62, 70] μ z) (whl (fun s : Int32 × Int32 × Int32 × Int32 => bd_X12_looks_38  μ4 s.1 s.2.1 s.2.2.1 s.2.2.2) (fun _ : Int32 × Int32 × Int32 × Int32 => (0, 0)) FU ((v_X12_wishesOf p0 μ1), (-1), 1000000, 0)) (fun r7 : Int32 × Int32 => (let μ8 : Mm := (upI μ4 49 1 0); (let μ10 : Mm := (e_X12_enters (Int32.toInt64 (r7.2)) μ8); μ10))) (fun r7 er7 => ?_)
      refine lt_ (P := fun z => Fr [49, 50, 53, 59, 60, 62, 70] μ z) ((upI μ4 49 1 0)) (fun μ8 : Mm => (let μ10 : Mm := (e_X12_enters (Int32.toInt64 (r7.2)) μ8); μ10)) (fun μ8 eμ8 => ?_)
      have fμ8 : Fr [49, 50, 53, 59, 60, 62, 70] μ μ8 := by
        rw [eμ8]
        exact Fr.up fμ4 (by simp)
      refine lt_ (P := fun z => Fr [49, 50, 53, 59, 60, 62, 70] μ z) ((e_X12_enters (Int32.toInt64 (r7.2)) μ8)) (fun μ10 : Mm => μ10) (fun μ10 eμ10 => ?_)
      have fμ10 : Fr [49, 50, 53, 59, 60, 62, 70] μ μ10 := by
        rw [eμ10]
        exact Fr.call fμ8 (fr_X12_enters (Int32.toInt64 (r7.2)) μ8) (by simp)
      exact fμ10
set_option maxRecDepth 20000 in
set_option maxHeartbeats 400000 in
theorem fw_X12_morning_64  (s : Int32 × Mm) : Fr [52, 59, 60, 62] (s.2) ((whl (fun s : Int32 × Mm => bd_X12_morning_64  s.1 s.2) (fun s : Int32 × Mm => (0, s.2)) FU s).2) := by
  have key : ∀ s : Int32 × Mm, FrS [52, 59, 60, 62] (s.2) (fun s : Int32 × Mm => s.2) (fun r : Int32 × Mm => r.2) ((fun s : Int32 × Mm => bd_X12_morning_64  s.1 s.2) s) := by
    rintro ⟨x4, μ⟩
    show FrS [52, 59, 60, 62] μ (fun s : Int32 × Mm => s.2) (fun r : Int32 × Mm => r.2) (bd_X12_morning_64  x4 μ)
    unfold bd_X12_morning_64
    refine FrS.ite ?_ ?_
    · exact FrS.inr Fr.rfl
    · refine lt_ (P := fun z => FrS [52, 59, 60, 62] μ (fun s : Int32 × Mm => s.2) (fun r : Int32 × Mm => r.2) z) ((e_X12_does x4 μ)) (fun μ3 : Mm => (if (v_X12_does x4 μ) = 0 then .inr (x4, μ3) else .inl ((x4 + 1), μ3))) (fun μ3 eμ3 => ?_)
      have fμ3 : Fr [52, 59, 60, 62] μ μ3 := by
        rw [eμ3]
        exact Fr.call Fr.rfl (fr_X12_does x4 μ) (by simp)
      refine FrS.ite ?_ ?_
      · exact FrS.inr fμ3
      · exact FrS.inl fμ3
  exact Fr_whlK (S := [52, 59, 60, 62]) (f := (fun s : Int32 × Mm => bd_X12_morning_64  s.1 s.2)) (dd := (fun s : Int32 × Mm => (0, s.2))) (fun s : Int32 × Mm => s.2) (fun r : Int32 × Mm => r.2) (fun _ => rfl) key FU s
set_option maxRecDepth 20000 in
set_option maxHeartbeats 400000 in
theorem fw_X12_morning_19  (s : Int32 × Int32 × Mm) : Fr [49, 63, 64, 65] (s.2.2) ((whl (fun s : Int32 × Int32 × Mm => bd_X12_morning_19  s.1 s.2.1 s.2.2) (fun s : Int32 × Int32 × Mm => (0, 0, s.2.2)) FU s).2.2) := by
  have key : ∀ s : Int32 × Int32 × Mm, FrS [49, 63, 64, 65] (s.2.2) (fun s : Int32 × Int32 × Mm => s.2.2) (fun r : Int32 × Int32 × Mm => r.2.2) ((fun s : Int32 × Int32 × Mm => bd_X12_morning_19  s.1 s.2.1 s.2.2) s) := by
    rintro ⟨x1, x2, μ⟩
    show FrS [49, 63, 64, 65] μ (fun s : Int32 × Int32 × Mm => s.2.2) (fun r : Int32 × Int32 × Mm => r.2.2) (bd_X12_morning_19  x1 x2 μ)
    unfold bd_X12_morning_19
    refine FrS.ite ?_ ?_
    · exact FrS.inr Fr.rfl
    · refine FrS.ite ?_ ?_
      · exact FrS.inr Fr.rfl
      · refine lt_ (P := fun z => FrS [49, 63, 64, 65] μ (fun s : Int32 × Int32 × Mm => s.2.2) (fun r : Int32 × Int32 × Mm => r.2.2) z) ((e_X12_readsAct  μ)) (fun μ4 : Mm => .inl (x1, (v_X12_readsAct  μ), μ4)) (fun μ4 eμ4 => ?_)
        have fμ4 : Fr [49, 63, 64, 65] μ μ4 := by
          rw [eμ4]
          exact Fr.call Fr.rfl (fr_X12_readsAct μ) (by simp)
        exact FrS.inl fμ4
  exact Fr_whlK (S := [49, 63, 64, 65]) (f := (fun s : Int32 × Int32 × Mm => bd_X12_morning_19  s.1 s.2.1 s.2.2)) (dd := (fun s : Int32 × Int32 × Mm => (0, 0, s.2.2))) (fun s : Int32 × Int32 × Mm => s.2.2) (fun r : Int32 × Int32 × Mm => r.2.2) (fun _ => rfl) key FU s
set_option maxRecDepth 20000 in
set_option maxHeartbeats 400000 in
theorem fr_X12_morning  (μ : Mm) : Fr [49, 50, 52, 59, 60, 61, 62, 63, 64, 65] μ (e_X12_morning  μ) := by
  unfold e_X12_morning
  refine lt_ (P := fun z => Fr [49, 50, 52, 59, 60, 61, 62, 63, 64, 65] μ z) ((upI μ 49 0 0)) (fun μ1 : Mm => (let μ2 : Mm := (e_X12_begins 60 μ1); (let μ3 : Mm := (upI μ2 49 29 0); (let r5 : Int32 × Int32 × Mm := whl (fun s : Int32 × Int32 × Mm => bd_X12_morning_19  s.1 s.2.1 s.2.2) (fun s : Int32 × Int32 × Mm => (0, 0, s.2.2)) FU ((v_X12_begins 60 μ1), 1, μ3); (if 0 ≤ (v_X12_faultOf (r5.1) 60 (r5.2.1) (r5.2.2)) then (let μ8 : Mm := (e_X12_putsBy  (r5.2.2)); (let r10 : Int32 × Mm := whl (fun s : Int32 × Mm => bd_X12_morning_64  s.1 s.2) (fun s : Int32 × Mm => (0, s.2)) FU (0, μ8); (let μ11 : Mm := (upI (r10.2) 49 1 0); (let μ15 : Mm := (e_X12_enters (Int32.toInt64 (v_X12_flag (if (μ11.1 49 29) ≤ (r10.1) then 0 else 1 : Int32))) μ11); (let μ18 : Mm := (e_X12_enters (Int32.toInt64 (2000 + (v_X12_moment 52 μ15))) μ15); (let μ22 : Mm := (if (r10.1) ≤ 0 then μ18 else ((e_X12_adds (r10.1) μ18)) : Mm); μ22)))))) else (r5.2.2)))))) (fun μ1 eμ1 => ?_)
  have fμ1 : Fr [49, 50, 52, 59, 60, 61, 62, 63, 64, 65] μ μ1 := by
    rw [eμ1]
    exact Fr.up Fr.rfl (by simp)
  refine lt_ (P := fun z => Fr [49, 50, 52, 59, 60, 61, 62, 63, 64, 65] μ z) ((e_X12_begins 60 μ1)) (fun μ2 : Mm => (let μ3 : Mm := (upI μ2 49 29 0); (let r5 : Int32 × Int32 × Mm := whl (fun s : Int32 × Int32 × Mm => bd_X12_morning_19  s.1 s.2.1 s.2.2) (fun s : Int32 × Int32 × Mm => (0, 0, s.2.2)) FU ((v_X12_begins 60 μ1), 1, μ3); (if 0 ≤ (v_X12_faultOf (r5.1) 60 (r5.2.1) (r5.2.2)) then (let μ8 : Mm := (e_X12_putsBy  (r5.2.2)); (let r10 : Int32 × Mm := whl (fun s : Int32 × Mm => bd_X12_morning_64  s.1 s.2) (fun s : Int32 × Mm => (0, s.2)) FU (0, μ8); (let μ11 : Mm := (upI (r10.2) 49 1 0); (let μ15 : Mm := (e_X12_enters (Int32.toInt64 (v_X12_flag (if (μ11.1 49 29) ≤ (r10.1) then 0 else 1 : Int32))) μ11); (let μ18 : Mm := (e_X12_enters (Int32.toInt64 (2000 + (v_X12_moment 52 μ15))) μ15); (let μ22 : Mm := (if (r10.1) ≤ 0 then μ18 else ((e_X12_adds (r10.1) μ18)) : Mm); μ22)))))) else (r5.2.2))))) (fun μ2 eμ2 => ?_)
  have fμ2 : Fr [49, 50, 52, 59, 60, 61, 62, 63, 64, 65] μ μ2 := by
    rw [eμ2]
    exact Fr.call fμ1 (fr_X12_begins 60 μ1) (by simp)
  refine lt_ (P := fun z => Fr [49, 50, 52, 59, 60, 61, 62, 63, 64, 65] μ z) ((upI μ2 49 29 0)) (fun μ3 : Mm => (let r5 : Int32 × Int32 × Mm := whl (fun s : Int32 × Int32 × Mm => bd_X12_morning_19  s.1 s.2.1 s.2.2) (fun s : Int32 × Int32 × Mm => (0, 0, s.2.2)) FU ((v_X12_begins 60 μ1), 1, μ3); (if 0 ≤ (v_X12_faultOf (r5.1) 60 (r5.2.1) (r5.2.2)) then (let μ8 : Mm := (e_X12_putsBy  (r5.2.2)); (let r10 : Int32 × Mm := whl (fun s : Int32 × Mm => bd_X12_morning_64  s.1 s.2) (fun s : Int32 × Mm => (0, s.2)) FU (0, μ8); (let μ11 : Mm := (upI (r10.2) 49 1 0); (let μ15 : Mm := (e_X12_enters (Int32.toInt64 (v_X12_flag (if (μ11.1 49 29) ≤ (r10.1) then 0 else 1 : Int32))) μ11); (let μ18 : Mm := (e_X12_enters (Int32.toInt64 (2000 + (v_X12_moment 52 μ15))) μ15); (let μ22 : Mm := (if (r10.1) ≤ 0 then μ18 else ((e_X12_adds (r10.1) μ18)) : Mm); μ22)))))) else (r5.2.2)))) (fun μ3 eμ3 => ?_)
  have fμ3 : Fr [49, 50, 52, 59, 60, 61, 62, 63, 64, 65] μ μ3 := by
    rw [eμ3]
    exact Fr.up fμ2 (by simp)
  refine lt_ (P := fun z => Fr [49, 50, 52, 59, 60, 61, 62, 63, 64, 65] μ z) (whl (fun s : Int32 × Int32 × Mm => bd_X12_morning_19  s.1 s.2.1 s.2.2) (fun s : Int32 × Int32 × Mm => (0, 0, s.2.2)) FU ((v_X12_begins 60 μ1), 1, μ3)) (fun r5 : Int32 × Int32 × Mm => (if 0 ≤ (v_X12_faultOf (r5.1) 60 (r5.2.1) (r5.2.2)) then (let μ8 : Mm := (e_X12_putsBy  (r5.2.2)); (let r10 : Int32 × Mm := whl (fun s : Int32 × Mm => bd_X12_morning_64  s.1 s.2) (fun s : Int32 × Mm => (0, s.2)) FU (0, μ8); (let μ11 : Mm := (upI (r10.2) 49 1 0); (let μ15 : Mm := (e_X12_enters (Int32.toInt64 (v_X12_flag (if (μ11.1 49 29) ≤ (r10.1) then 0 else 1 : Int32))) μ11); (let μ18 : Mm := (e_X12_enters (Int32.toInt64 (2000 + (v_X12_moment 52 μ15))) μ15); (let μ22 : Mm := (if (r10.1) ≤ 0 then μ18 else ((e_X12_adds (r10.1) μ18)) : Mm); μ22)))))) else (r5.2.2))) (fun r5 er5 => ?_)
  have fr5 : Fr [49, 50, 52, 59, 60, 61, 62, 63, 64, 65] μ (r5.2.2) := by
    rw [er5]
    exact Fr.call fμ3 (fw_X12_morning_19  _) (by simp)
  refine Fr.ite ?_ ?_
  · refine lt_ (P := fun z => Fr [49, 50, 52, 59, 60, 61, 62, 63, 64, 65] μ z) ((e_X12_putsBy  (r5.2.2))) (fun μ8 : Mm => (let r10 : Int32 × Mm := whl (fun s : Int32 × Mm => bd_X12_morning_64  s.1 s.2) (fun s : Int32 × Mm => (0, s.2)) FU (0, μ8); (let μ11 : Mm := (upI (r10.2) 49 1 0); (let μ15 : Mm := (e_X12_enters (Int32.toInt64 (v_X12_flag (if (μ11.1 49 29) ≤ (r10.1) then 0 else 1 : Int32))) μ11); (let μ18 : Mm := (e_X12_enters (Int32.toInt64 (2000 + (v_X12_moment 52 μ15))) μ15); (let μ22 : Mm := (if (r10.1) ≤ 0 then μ18 else ((e_X12_adds (r10.1) μ18)) : Mm); μ22)))))) (fun μ8 eμ8 => ?_)
    have fμ8 : Fr [49, 50, 52, 59, 60, 61, 62, 63, 64, 65] μ μ8 := by
      rw [eμ8]
      exact Fr.call fr5 (fr_X12_putsBy (r5.2.2)) (by simp)
    refine lt_ (P := fun z => Fr [49, 50, 52, 59, 60, 61, 62, 63, 64, 65] μ z) (whl (fun s : Int32 × Mm => bd_X12_morning_64  s.1 s.2) (fun s : Int32 × Mm => (0, s.2)) FU (0, μ8)) (fun r10 : Int32 × Mm => (let μ11 : Mm := (upI (r10.2) 49 1 0); (let μ15 : Mm := (e_X12_enters (Int32.toInt64 (v_X12_flag (if (μ11.1 49 29) ≤ (r10.1) then 0 else 1 : Int32))) μ11); (let μ18 : Mm := (e_X12_enters (Int32.toInt64 (2000 + (v_X12_moment 52 μ15))) μ15); (let μ22 : Mm := (if (r10.1) ≤ 0 then μ18 else ((e_X12_adds (r10.1) μ18)) : Mm); μ22))))) (fun r10 er10 => ?_)
    have fr10 : Fr [49, 50, 52, 59, 60, 61, 62, 63, 64, 65] μ (r10.2) := by
      rw [er10]
      exact Fr.call fμ8 (fw_X12_morning_64  _) (by simp)
    refine lt_ (P := fun z => Fr [49, 50, 52, 59, 60, 61, 62, 63, 64, 65] μ z) ((upI (r10.2) 49 1 0)) (fun μ11 : Mm => (let μ15 : Mm := (e_X12_enters (Int32.toInt64 (v_X12_flag (if (μ11.1 49 29) ≤ (r10.1) then 0 else 1 : Int32))) μ11); (let μ18 : Mm := (e_X12_enters (Int32.toInt64 (2000 + (v_X12_moment 52 μ15))) μ15); (let μ22 : Mm := (if (r10.1) ≤ 0 then μ18 else ((e_X12_adds (r10.1) μ18)) : Mm); μ22)))) (fun μ11 eμ11 => ?_)
    have fμ11 : Fr [49, 50, 52, 59, 60, 61, 62, 63, 64, 65] μ μ11 := by
      rw [eμ11]
      exact Fr.up fr10 (by simp)
    refine lt_ (P := fun z => Fr [49, 50, 52, 59, 60, 61, 62, 63, 64, 65] μ z) ((e_X12_enters (Int32.toInt64 (v_X12_flag (if (μ11.1 49 29) ≤ (r10.1) then 0 else 1 : Int32))) μ11)) (fun μ15 : Mm => (let μ18 : Mm := (e_X12_enters (Int32.toInt64 (2000 + (v_X12_moment 52 μ15))) μ15); (let μ22 : Mm := (if (r10.1) ≤ 0 then μ18 else ((e_X12_adds (r10.1) μ18)) : Mm); μ22))) (fun μ15 eμ15 => ?_)
    have fμ15 : Fr [49, 50, 52, 59, 60, 61, 62, 63, 64, 65] μ μ15 := by
      rw [eμ15]
      exact Fr.call fμ11 (fr_X12_enters (Int32.toInt64 (v_X12_flag (if (μ11.1 49 29) ≤ (r10.1) then 0 else 1 : Int32))) μ11) (by simp)
    refine lt_ (P := fun z => Fr [49, 50, 52, 59, 60, 61, 62, 63, 64, 65] μ z) ((e_X12_enters (Int32.toInt64 (2000 + (v_X12_moment 52 μ15))) μ15)) (fun μ18 : Mm => (let μ22 : Mm := (if (r10.1) ≤ 0 then μ18 else ((e_X12_adds (r10.1) μ18)) : Mm); μ22)) (fun μ18 eμ18 => ?_)
    have fμ18 : Fr [49, 50, 52, 59, 60, 61, 62, 63, 64, 65] μ μ18 := by
      rw [eμ18]
      exact Fr.call fμ15 (fr_X12_enters (Int32.toInt64 (2000 + (v_X12_moment 52 μ15))) μ15) (by simp)
    refine lt_ (P := fun z => Fr [49, 50, 52, 59, 60, 61, 62, 63, 64, 65] μ z) ((if (r10.1) ≤ 0 then μ18 else ((e_X12_adds (r10.1) μ18)) : Mm)) (fun μ22 : Mm => μ22) (fun μ22 eμ22 => ?_)
    have fμ22 : Fr [49, 50, 52, 59, 60, 61, 62, 63, 64, 65] μ μ22 := by
      rw [eμ22]
      repeat' (first | with_reducible assumption | with_reducible exact Fr.rfl | with_reducible refine Fr.ite ?_ ?_ | with_reducible refine Fr.up ?_ (by simp) | with_reducible refine Fr.upJ ?_ (by simp) | with_reducible refine Fr.call ?_ (fr_X12_adds _ _) (by simp) | with_reducible refine Fr.call ?_ (fr_X12_begins _ _) (by simp) | with_reducible refine Fr.call ?_ (fr_X12_does _ _) (by simp) | with_reducible refine Fr.call ?_ (fr_X12_enters _ _) (by simp) | with_reducible refine Fr.call ?_ (fr_X12_putsBy _) (by simp) | with_reducible refine Fr.call ?_ (fr_X12_readsAct _) (by simp) | with_reducible refine Fr.call ?_ (fw_X12_morning_64  _) (by simp) | with_reducible refine Fr.call ?_ (fw_X12_morning_19  _) (by simp))
    exact fμ22
  · exact fr5
set_option maxRecDepth 20000 in
set_option maxHeartbeats 400000 in
theorem fw_X12_people_29  (s : Int32 × Int32 × Int32 × Mm) : Fr [49, 55, 56] (s.2.2.2) ((whl (fun s : Int32 × Int32 × Int32 × Mm => bd_X12_people_29  s.1 s.2.1 s.2.2.1 s.2.2.2) (fun s : Int32 × Int32 × Int32 × Mm => (0, 0, s.2.2.2)) FU s).2.2) := by
  have key : ∀ s : Int32 × Int32 × Int32 × Mm, FrS [49, 55, 56] (s.2.2.2) (fun s : Int32 × Int32 × Int32 × Mm => s.2.2.2) (fun r : Int32 × Int32 × Mm => r.2.2) ((fun s : Int32 × Int32 × Int32 × Mm => bd_X12_people_29  s.1 s.2.1 s.2.2.1 s.2.2.2) s) := by
    rintro ⟨x1, x2, x3, μ⟩
    show FrS [49, 55, 56] μ (fun s : Int32 × Int32 × Int32 × Mm => s.2.2.2) (fun r : Int32 × Int32 × Mm => r.2.2) (bd_X12_people_29  x1 x2 x3 μ)
    unfold bd_X12_people_29
    refine FrS.ite ?_ ?_
    · exact FrS.inr Fr.rfl
    · refine lt_ (P := fun z => FrS [49, 55, 56] μ (fun s : Int32 × Int32 × Int32 × Mm => s.2.2.2) (fun r : Int32 × Int32 × Mm => r.2.2) z) ((e_X12_readsOne  μ)) (fun μ3 : Mm => (let μ8 : Mm := (if (v_X12_readsOne  μ) = 0 then μ3 else ((e_X12_takes 59 μ3)) : Mm); .inl (x1, (v_X12_readsOne  μ), (if (v_X12_readsOne  μ) = 0 then 0 else (if (v_X12_takes 59 μ3) = 0 then 0 else 1 : Int32) : Int32), μ8))) (fun μ3 eμ3 => ?_)
      have fμ3 : Fr [49, 55, 56] μ μ3 := by
        rw [eμ3]
        exact Fr.call Fr.rfl (fr_X12_readsOne μ) (by simp)
      refine lt_ (P := fun z => FrS [49, 55, 56] μ (fun s : Int32 × Int32 × Int32 × Mm => s.2.2.2) (fun r : Int32 × Int32 × Mm => r.2.2) z) ((if (v_X12_readsOne  μ) = 0 then μ3 else ((e_X12_takes 59 μ3)) : Mm)) (fun μ8 : Mm => .inl (x1, (v_X12_readsOne  μ), (if (v_X12_readsOne  μ) = 0 then 0 else (if (v_X12_takes 59 μ3) = 0 then 0 else 1 : Int32) : Int32), μ8)) (fun μ8 eμ8 => ?_)
      have fμ8 : Fr [49, 55, 56] μ μ8 := by
        rw [eμ8]
        repeat' (first | with_reducible assumption | with_reducible exact Fr.rfl | with_reducible refine Fr.ite ?_ ?_ | with_reducible refine Fr.up ?_ (by simp) | with_reducible refine Fr.upJ ?_ (by simp) | with_reducible refine Fr.call ?_ (fr_X12_begins _ _) (by simp) | with_reducible refine Fr.call ?_ (fr_X12_readsOne _) (by simp) | with_reducible refine Fr.call ?_ (fr_X12_takes _ _) (by simp))
      exact FrS.inl fμ8
  exact Fr_whlK (S := [49, 55, 56]) (f := (fun s : Int32 × Int32 × Int32 × Mm => bd_X12_people_29  s.1 s.2.1 s.2.2.1 s.2.2.2)) (dd := (fun s : Int32 × Int32 × Int32 × Mm => (0, 0, s.2.2.2))) (fun s : Int32 × Int32 × Int32 × Mm => s.2.2.2) (fun r : Int32 × Int32 × Mm => r.2.2) (fun _ => rfl) key FU s
set_option maxRecDepth 20000 in
set_option maxHeartbeats 400000 in
theorem fw_X12_people_81  (s : Int32 × Mm) : Fr [49, 51, 52] (s.2) ((whl (fun s : Int32 × Mm => bd_X12_people_81  s.1 s.2) (fun s : Int32 × Mm => s.2) FU s)) := by
  have key : ∀ s : Int32 × Mm, FrS [49, 51, 52] (s.2) (fun s : Int32 × Mm => s.2) (fun r : Mm => r) ((fun s : Int32 × Mm => bd_X12_people_81  s.1 s.2) s) := by
    rintro ⟨x5, μ⟩
    show FrS [49, 51, 52] μ (fun s : Int32 × Mm => s.2) (fun r : Mm => r) (bd_X12_people_81  x5 μ)
    unfold bd_X12_people_81
    refine FrS.ite ?_ ?_
    · exact FrS.inr Fr.rfl
    · refine lt_ (P := fun z => FrS [49, 51, 52] μ (fun s : Int32 × Mm => s.2) (fun r : Mm => r) z) ((upI μ 51 (Int32.toNatClampNeg (μ.1 49 3)) (μ.1 55 (Int32.toNatClampNeg x5)))) (fun μ4 : Mm => (let μ7 : Mm := (upI μ4 52 (Int32.toNatClampNeg (μ4.1 49 3)) (μ4.1 56 (Int32.toNatClampNeg x5))); (let μ8 : Mm := (upI μ7 49 3 ((μ7.1 49 3) + 1)); .inl ((x5 + 1), μ8)))) (fun μ4 eμ4 => ?_)
      have fμ4 : Fr [49, 51, 52] μ μ4 := by
        rw [eμ4]
        exact Fr.up Fr.rfl (by simp)
      refine lt_ (P := fun z => FrS [49, 51, 52] μ (fun s : Int32 × Mm => s.2) (fun r : Mm => r) z) ((upI μ4 52 (Int32.toNatClampNeg (μ4.1 49 3)) (μ4.1 56 (Int32.toNatClampNeg x5)))) (fun μ7 : Mm => (let μ8 : Mm := (upI μ7 49 3 ((μ7.1 49 3) + 1)); .inl ((x5 + 1), μ8))) (fun μ7 eμ7 => ?_)
      have fμ7 : Fr [49, 51, 52] μ μ7 := by
        rw [eμ7]
        exact Fr.up fμ4 (by simp)
      refine lt_ (P := fun z => FrS [49, 51, 52] μ (fun s : Int32 × Mm => s.2) (fun r : Mm => r) z) ((upI μ7 49 3 ((μ7.1 49 3) + 1))) (fun μ8 : Mm => .inl ((x5 + 1), μ8)) (fun μ8 eμ8 => ?_)
      have fμ8 : Fr [49, 51, 52] μ μ8 := by
        rw [eμ8]
        exact Fr.up fμ7 (by simp)
      exact FrS.inl fμ8
  exact Fr_whlK (S := [49, 51, 52]) (f := (fun s : Int32 × Mm => bd_X12_people_81  s.1 s.2)) (dd := (fun s : Int32 × Mm => s.2)) (fun s : Int32 × Mm => s.2) (fun r : Mm => r) (fun _ => rfl) key FU s
set_option maxRecDepth 20000 in
set_option maxHeartbeats 400000 in
theorem fr_X12_people  (μ : Mm) : Fr [49, 51, 52, 55, 56] μ (e_X12_people  μ) := by
  unfold e_X12_people
  refine lt_ (P := fun z => Fr [49, 51, 52, 55, 56] μ z) ((upI μ 49 0 0)) (fun μ1 : Mm => (let μ2 : Mm := (e_X12_begins 27 μ1); (let μ3 : Mm := (upI μ2 49 16 0); (let r7 : Int32 × Int32 × Mm := whl (fun s : Int32 × Int32 × Int32 × Mm => bd_X12_people_29  s.1 s.2.1 s.2.2.1 s.2.2.2) (fun s : Int32 × Int32 × Int32 × Mm => (0, 0, s.2.2.2)) FU ((v_X12_begins 27 μ1), 1, (if (v_X12_begins 27 μ1) ≤ 0 then 0 else 1 : Int32), μ3); (if 0 ≤ (v_X12_faultOf (r7.1) 27 (r7.2.1) (r7.2.2)) then (let r10 : Mm := whl (fun s : Int32 × Mm => bd_X12_people_81  s.1 s.2) (fun s : Int32 × Mm => s.2) FU (0, (r7.2.2)); (let μ13 : Mm := (upI r10 49 23 (if (r10.1 49 16) ≤ 0 then (r10.1 49 23) else 0 : Int32)); (let μ16 : Mm := (upI μ13 49 4 ((μ13.1 49 4) + (v_X12_flag (if (μ13.1 49 16) ≤ 0 then 0 else 1 : Int32)))); μ16))) else (r7.2.2)))))) (fun μ1 eμ1 => ?_)
  have fμ1 : Fr [49, 51, 52, 55, 56] μ μ1 := by
    rw [eμ1]
    exact Fr.up Fr.rfl (by simp)
  refine lt_ (P := fun z => Fr [49, 51, 52, 55, 56] μ z) ((e_X12_begins 27 μ1)) (fun μ2 : Mm => (let μ3 : Mm := (upI μ2 49 16 0); (let r7 : Int32 × Int32 × Mm := whl (fun s : Int32 × Int32 × Int32 × Mm => bd_X12_people_29  s.1 s.2.1 s.2.2.1 s.2.2.2) (fun s : Int32 × Int32 × Int32 × Mm => (0, 0, s.2.2.2)) FU ((v_X12_begins 27 μ1), 1, (if (v_X12_begins 27 μ1) ≤ 0 then 0 else 1 : Int32), μ3); (if 0 ≤ (v_X12_faultOf (r7.1) 27 (r7.2.1) (r7.2.2)) then (let r10 : Mm := whl (fun s : Int32 × Mm => bd_X12_people_81  s.1 s.2) (fun s : Int32 × Mm => s.2) FU (0, (r7.2.2)); (let μ13 : Mm := (upI r10 49 23 (if (r10.1 49 16) ≤ 0 then (r10.1 49 23) else 0 : Int32)); (let μ16 : Mm := (upI μ13 49 4 ((μ13.1 49 4) + (v_X12_flag (if (μ13.1 49 16) ≤ 0 then 0 else 1 : Int32)))); μ16))) else (r7.2.2))))) (fun μ2 eμ2 => ?_)
  have fμ2 : Fr [49, 51, 52, 55, 56] μ μ2 := by
    rw [eμ2]
    exact Fr.call fμ1 (fr_X12_begins 27 μ1) (by simp)
  refine lt_ (P := fun z => Fr [49, 51, 52, 55, 56] μ z) ((upI μ2 49 16 0)) (fun μ3 : Mm => (let r7 : Int32 × Int32 × Mm := whl (fun s : Int32 × Int32 × Int32 × Mm => bd_X12_people_29  s.1 s.2.1 s.2.2.1 s.2.2.2) (fun s : Int32 × Int32 × Int32 × Mm => (0, 0, s.2.2.2)) FU ((v_X12_begins 27 μ1), 1, (if (v_X12_begins 27 μ1) ≤ 0 then 0 else 1 : Int32), μ3); (if 0 ≤ (v_X12_faultOf (r7.1) 27 (r7.2.1) (r7.2.2)) then (let r10 : Mm := whl (fun s : Int32 × Mm => bd_X12_people_81  s.1 s.2) (fun s : Int32 × Mm => s.2) FU (0, (r7.2.2)); (let μ13 : Mm := (upI r10 49 23 (if (r10.1 49 16) ≤ 0 then (r10.1 49 23) else 0 : Int32)); (let μ16 : Mm := (upI μ13 49 4 ((μ13.1 49 4) + (v_X12_flag (if (μ13.1 49 16) ≤ 0 then 0 else 1 : Int32)))); μ16))) else (r7.2.2)))) (fun μ3 eμ3 => ?_)
  have fμ3 : Fr [49, 51, 52, 55, 56] μ μ3 := by
    rw [eμ3]
    exact Fr.up fμ2 (by simp)
  refine lt_ (P := fun z => Fr [49, 51, 52, 55, 56] μ z) (whl (fun s : Int32 × Int32 × Int32 × Mm => bd_X12_people_29  s.1 s.2.1 s.2.2.1 s.2.2.2) (fun s : Int32 × Int32 × Int32 × Mm => (0, 0, s.2.2.2)) FU ((v_X12_begins 27 μ1), 1, (if (v_X12_begins 27 μ1) ≤ 0 then 0 else 1 : Int32), μ3)) (fun r7 : Int32 × Int32 × Mm => (if 0 ≤ (v_X12_faultOf (r7.1) 27 (r7.2.1) (r7.2.2)) then (let r10 : Mm := whl (fun s : Int32 × Mm => bd_X12_people_81  s.1 s.2) (fun s : Int32 × Mm => s.2) FU (0, (r7.2.2)); (let μ13 : Mm := (upI r10 49 23 (if (r10.1 49 16) ≤ 0 then (r10.1 49 23) else 0 : Int32)); (let μ16 : Mm := (upI μ13 49 4 ((μ13.1 49 4) + (v_X12_flag (if (μ13.1 49 16) ≤ 0 then 0 else 1 : Int32)))); μ16))) else (r7.2.2))) (fun r7 er7 => ?_)
  have fr7 : Fr [49, 51, 52, 55, 56] μ (r7.2.2) := by
    rw [er7]
    exact Fr.call fμ3 (fw_X12_people_29  _) (by simp)
  refine Fr.ite ?_ ?_
  · refine lt_ (P := fun z => Fr [49, 51, 52, 55, 56] μ z) (whl (fun s : Int32 × Mm => bd_X12_people_81  s.1 s.2) (fun s : Int32 × Mm => s.2) FU (0, (r7.2.2))) (fun r10 : Mm => (let μ13 : Mm := (upI r10 49 23 (if (r10.1 49 16) ≤ 0 then (r10.1 49 23) else 0 : Int32)); (let μ16 : Mm := (upI μ13 49 4 ((μ13.1 49 4) + (v_X12_flag (if (μ13.1 49 16) ≤ 0 then 0 else 1 : Int32)))); μ16))) (fun r10 er10 => ?_)
    have fr10 : Fr [49, 51, 52, 55, 56] μ r10 := by
      rw [er10]
      exact Fr.call fr7 (fw_X12_people_81  _) (by simp)
    refine lt_ (P := fun z => Fr [49, 51, 52, 55, 56] μ z) ((upI r10 49 23 (if (r10.1 49 16) ≤ 0 then (r10.1 49 23) else 0 : Int32))) (fun μ13 : Mm => (let μ16 : Mm := (upI μ13 49 4 ((μ13.1 49 4) + (v_X12_flag (if (μ13.1 49 16) ≤ 0 then 0 else 1 : Int32)))); μ16)) (fun μ13 eμ13 => ?_)
    have fμ13 : Fr [49, 51, 52, 55, 56] μ μ13 := by
      rw [eμ13]
      exact Fr.up fr10 (by simp)
    refine lt_ (P := fun z => Fr [49, 51, 52, 55, 56] μ z) ((upI μ13 49 4 ((μ13.1 49 4) + (v_X12_flag (if (μ13.1 49 16) ≤ 0 then 0 else 1 : Int32))))) (fun μ16 : Mm => μ16) (fun μ16 eμ16 => ?_)
    have fμ16 : Fr [49, 51, 52, 55, 56] μ μ16 := by
      rw [eμ16]
      exact Fr.up fμ13 (by simp)
    exact fμ16
  · exact fr7

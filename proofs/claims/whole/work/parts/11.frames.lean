/-! what stays of the memory behind each method; by program (wip/whole/frames.py) -/
def FrS {σ ρ : Type} (S : List Nat) (μ : Mm) (mi : σ → Mm) (mr : ρ → Mm) (x : σ ⊕ ρ) : Prop := match x with
  | .inl s => Fr S μ (mi s)
  | .inr r => Fr S μ (mr r)
theorem FrS.ite {σ ρ : Type} {S : List Nat} {μ : Mm} {mi : σ → Mm} {mr : ρ → Mm} {a b : σ ⊕ ρ} {c : Prop} [Decidable c] (ha : FrS S μ mi mr a) (hb : FrS S μ mi mr b) : FrS S μ mi mr (if c then a else b) := by
  by_cases h : c
  · rw [if_pos h]; exact ha
  · rw [if_neg h]; exact hb
theorem FrS.inl {σ ρ : Type} {S : List Nat} {μ : Mm} {mi : σ → Mm} {mr : ρ → Mm} {s : σ} (h : Fr S μ (mi s)) : FrS S μ mi mr (.inl s) := h
theorem FrS.inr {σ ρ : Type} {S : List Nat} {μ : Mm} {mi : σ → Mm} {mr : ρ → Mm} {r : ρ} (h : Fr S μ (mr r)) : FrS S μ mi mr (.inr r) := h
set_option maxRecDepth 20000 in
set_option maxHeartbeats 4000000 in
theorem fr_X0_below (p0 : Int32) (μ : Mm) : Fr [45] μ (e_X0_below p0 μ) := by
  unfold e_X0_below
  repeat' (first | (with_reducible exact Fr.rfl) | (extract_lets) | (refine FrS.ite ?_ ?_) | (refine FrS.inl ?_) | (refine FrS.inr ?_) | (refine Fr.ite ?_ ?_) | (refine Fr.up ?_ (by simp)) | (refine Fr.upJ ?_ (by simp)))
set_option maxRecDepth 20000 in
set_option maxHeartbeats 4000000 in
theorem fr_X0_start (p0 : Int32) (μ : Mm) : Fr [45] μ (e_X0_start p0 μ) := by
  unfold e_X0_start
  repeat' (first | (with_reducible exact Fr.rfl) | (extract_lets) | (refine FrS.ite ?_ ?_) | (refine FrS.inl ?_) | (refine FrS.inr ?_) | (refine Fr.ite ?_ ?_) | (refine Fr.up ?_ (by simp)) | (refine Fr.upJ ?_ (by simp)))
set_option maxRecDepth 20000 in
set_option maxHeartbeats 4000000 in
theorem fr_X10_add (p0 : Int64) (μ : Mm) : Fr [27, 28] μ (e_X10_add p0 μ) := by
  unfold e_X10_add
  repeat' (first | (with_reducible exact Fr.rfl) | (extract_lets) | (refine FrS.ite ?_ ?_) | (refine FrS.inl ?_) | (refine FrS.inr ?_) | (refine Fr.ite ?_ ?_) | (refine Fr.up ?_ (by simp)) | (refine Fr.upJ ?_ (by simp)))
set_option maxRecDepth 20000 in
set_option maxHeartbeats 4000000 in
theorem fr_X10_begin  (μ : Mm) : Fr [27] μ (e_X10_begin  μ) := by
  unfold e_X10_begin
  repeat' (first | (with_reducible exact Fr.rfl) | (extract_lets) | (refine FrS.ite ?_ ?_) | (refine FrS.inl ?_) | (refine FrS.inr ?_) | (refine Fr.ite ?_ ?_) | (refine Fr.up ?_ (by simp)) | (refine Fr.upJ ?_ (by simp)))
set_option maxRecDepth 20000 in
set_option maxHeartbeats 4000000 in
theorem fr_X11_denies  (μ : Mm) : Fr [42] μ (e_X11_denies  μ) := by
  unfold e_X11_denies
  repeat' (first | (with_reducible exact Fr.rfl) | (extract_lets) | (refine FrS.ite ?_ ?_) | (refine FrS.inl ?_) | (refine FrS.inr ?_) | (refine Fr.ite ?_ ?_) | (refine Fr.up ?_ (by simp)) | (refine Fr.upJ ?_ (by simp)))
set_option maxRecDepth 20000 in
set_option maxHeartbeats 4000000 in
theorem fr_X11_forget  (μ : Mm) : Fr [38] μ (e_X11_forget  μ) := by
  unfold e_X11_forget
  repeat' (first | (with_reducible exact Fr.rfl) | (extract_lets) | (refine FrS.ite ?_ ?_) | (refine FrS.inl ?_) | (refine FrS.inr ?_) | (refine Fr.ite ?_ ?_) | (refine Fr.up ?_ (by simp)) | (refine Fr.upJ ?_ (by simp)))
set_option maxRecDepth 20000 in
set_option maxHeartbeats 4000000 in
theorem fr_X12_becomes (p0 : Int32) (p1 : Int32) (p2 : Int32) (μ : Mm) : Fr [52] μ (e_X12_becomes p0 p1 p2 μ) := by
  unfold e_X12_becomes
  repeat' (first | (with_reducible exact Fr.rfl) | (extract_lets) | (refine FrS.ite ?_ ?_) | (refine FrS.inl ?_) | (refine FrS.inr ?_) | (refine Fr.ite ?_ ?_) | (refine Fr.up ?_ (by simp)) | (refine Fr.upJ ?_ (by simp)))
set_option maxRecDepth 20000 in
set_option maxHeartbeats 4000000 in
theorem fr_X12_codes (p0 : Int32) (μ : Mm) : Fr [49, 58] μ (e_X12_codes p0 μ) := by
  unfold e_X12_codes
  repeat' (first | (with_reducible exact Fr.rfl) | (extract_lets) | (refine FrS.ite ?_ ?_) | (refine FrS.inl ?_) | (refine FrS.inr ?_) | (refine Fr.ite ?_ ?_) | (refine Fr.up ?_ (by simp)) | (refine Fr.upJ ?_ (by simp)))
set_option maxRecDepth 20000 in
set_option maxHeartbeats 4000000 in
theorem fr_X12_denies  (μ : Mm) : Fr [49] μ (e_X12_denies  μ) := by
  unfold e_X12_denies
  repeat' (first | (with_reducible exact Fr.rfl) | (extract_lets) | (refine FrS.ite ?_ ?_) | (refine FrS.inl ?_) | (refine FrS.inr ?_) | (refine Fr.ite ?_ ?_) | (refine Fr.up ?_ (by simp)) | (refine Fr.upJ ?_ (by simp)))
set_option maxRecDepth 20000 in
set_option maxHeartbeats 4000000 in
theorem fr_X12_draws (p0 : Int32) (μ : Mm) : Fr [49] μ (e_X12_draws p0 μ) := by
  unfold e_X12_draws
  repeat' (first | (with_reducible exact Fr.rfl) | (extract_lets) | (refine FrS.ite ?_ ?_) | (refine FrS.inl ?_) | (refine FrS.inr ?_) | (refine Fr.ite ?_ ?_) | (refine Fr.up ?_ (by simp)) | (refine Fr.upJ ?_ (by simp)))
set_option maxRecDepth 20000 in
set_option maxHeartbeats 4000000 in
theorem fr_X12_enters (p0 : Int64) (μ : Mm) : Fr [49, 50] μ (e_X12_enters p0 μ) := by
  unfold e_X12_enters
  repeat' (first | (with_reducible exact Fr.rfl) | (extract_lets) | (refine FrS.ite ?_ ?_) | (refine FrS.inl ?_) | (refine FrS.inr ?_) | (refine Fr.ite ?_ ?_) | (refine Fr.up ?_ (by simp)) | (refine Fr.upJ ?_ (by simp)))
set_option maxRecDepth 20000 in
set_option maxHeartbeats 4000000 in
theorem fr_X12_forget  (μ : Mm) : Fr [49] μ (e_X12_forget  μ) := by
  unfold e_X12_forget
  repeat' (first | (with_reducible exact Fr.rfl) | (extract_lets) | (refine FrS.ite ?_ ?_) | (refine FrS.inl ?_) | (refine FrS.inr ?_) | (refine Fr.ite ?_ ?_) | (refine Fr.up ?_ (by simp)) | (refine Fr.upJ ?_ (by simp)))
set_option maxRecDepth 20000 in
set_option maxHeartbeats 4000000 in
theorem fr_X12_refuse  (μ : Mm) : Fr [49] μ (e_X12_refuse  μ) := by
  unfold e_X12_refuse
  repeat' (first | (with_reducible exact Fr.rfl) | (extract_lets) | (refine FrS.ite ?_ ?_) | (refine FrS.inl ?_) | (refine FrS.inr ?_) | (refine Fr.ite ?_ ?_) | (refine Fr.up ?_ (by simp)) | (refine Fr.upJ ?_ (by simp)))
set_option maxRecDepth 20000 in
set_option maxHeartbeats 4000000 in
theorem fr_X1_join (b : Nat) (p0 : Int32) (p1 : Int32) (μ : Mm) : Fr [(b + 1), (b + 2), (b + 3), (b + 4), b] μ (e_X1_join b p0 p1 μ) := by
  unfold e_X1_join
  repeat' (first | (with_reducible exact Fr.rfl) | (extract_lets) | (refine FrS.ite ?_ ?_) | (refine FrS.inl ?_) | (refine FrS.inr ?_) | (refine Fr.ite ?_ ?_) | (refine Fr.up ?_ (by simp)) | (refine Fr.upJ ?_ (by simp)))
set_option maxRecDepth 20000 in
set_option maxHeartbeats 4000000 in
theorem fr_X1_setNoon (b : Nat) (p0 : Int32) (μ : Mm) : Fr [b] μ (e_X1_setNoon b p0 μ) := by
  unfold e_X1_setNoon
  repeat' (first | (with_reducible exact Fr.rfl) | (extract_lets) | (refine FrS.ite ?_ ?_) | (refine FrS.inl ?_) | (refine FrS.inr ?_) | (refine Fr.ite ?_ ?_) | (refine Fr.up ?_ (by simp)) | (refine Fr.upJ ?_ (by simp)))
set_option maxRecDepth 20000 in
set_option maxHeartbeats 4000000 in
theorem fr_X2_add (p0 : Int32) (p1 : Int32) (μ : Mm) : Fr [42, 43, 44] μ (e_X2_add p0 p1 μ) := by
  unfold e_X2_add
  repeat' (first | (with_reducible exact Fr.rfl) | (extract_lets) | (refine FrS.ite ?_ ?_) | (refine FrS.inl ?_) | (refine FrS.inr ?_) | (refine Fr.ite ?_ ?_) | (refine Fr.up ?_ (by simp)) | (refine Fr.upJ ?_ (by simp)))
set_option maxRecDepth 20000 in
set_option maxHeartbeats 4000000 in
theorem fr_X4_clear (b : Nat) (μ : Mm) : Fr [b] μ (e_X4_clear b μ) := by
  unfold e_X4_clear
  repeat' (first | (with_reducible exact Fr.rfl) | (extract_lets) | (refine FrS.ite ?_ ?_) | (refine FrS.inl ?_) | (refine FrS.inr ?_) | (refine Fr.ite ?_ ?_) | (refine Fr.up ?_ (by simp)) | (refine Fr.upJ ?_ (by simp)))
set_option maxRecDepth 20000 in
set_option maxHeartbeats 4000000 in
theorem fr_X4_pop (b : Nat) (μ : Mm) : Fr [b] μ (e_X4_pop b μ) := by
  unfold e_X4_pop
  repeat' (first | (with_reducible exact Fr.rfl) | (extract_lets) | (refine FrS.ite ?_ ?_) | (refine FrS.inl ?_) | (refine FrS.inr ?_) | (refine Fr.ite ?_ ?_) | (refine Fr.up ?_ (by simp)) | (refine Fr.upJ ?_ (by simp)))
set_option maxRecDepth 20000 in
set_option maxHeartbeats 4000000 in
theorem fr_X4_push (b : Nat) (p0 : Int32) (μ : Mm) : Fr [(b + 1), b] μ (e_X4_push b p0 μ) := by
  unfold e_X4_push
  repeat' (first | (with_reducible exact Fr.rfl) | (extract_lets) | (refine FrS.ite ?_ ?_) | (refine FrS.inl ?_) | (refine FrS.inr ?_) | (refine Fr.ite ?_ ?_) | (refine Fr.up ?_ (by simp)) | (refine Fr.upJ ?_ (by simp)))
set_option maxRecDepth 20000 in
set_option maxHeartbeats 4000000 in
theorem fr_X5_emit (b : Nat) (p0 : Int32) (μ : Mm) : Fr [(b + 1), b] μ (e_X5_emit b p0 μ) := by
  unfold e_X5_emit
  repeat' (first | (with_reducible exact Fr.rfl) | (extract_lets) | (refine FrS.ite ?_ ?_) | (refine FrS.inl ?_) | (refine FrS.inr ?_) | (refine Fr.ite ?_ ?_) | (refine Fr.up ?_ (by simp)) | (refine Fr.upJ ?_ (by simp)))
set_option maxRecDepth 20000 in
set_option maxHeartbeats 4000000 in
theorem fr_X5_takeDigit (b : Nat) (p0 : Int32) (μ : Mm) : Fr [(b + 1), b] μ (e_X5_takeDigit b p0 μ) := by
  unfold e_X5_takeDigit
  repeat' (first | (with_reducible exact Fr.rfl) | (extract_lets) | (refine FrS.ite ?_ ?_) | (refine FrS.inl ?_) | (refine FrS.inr ?_) | (refine Fr.ite ?_ ?_) | (refine Fr.up ?_ (by simp)) | (refine Fr.upJ ?_ (by simp)))
set_option maxRecDepth 20000 in
set_option maxHeartbeats 4000000 in
theorem fr_X6_add (p0 : Int32) (p1 : Int32) (p2 : Int32) (μ : Mm) : Fr [38, 39, 40, 41] μ (e_X6_add p0 p1 p2 μ) := by
  unfold e_X6_add
  repeat' (first | (with_reducible exact Fr.rfl) | (extract_lets) | (refine FrS.ite ?_ ?_) | (refine FrS.inl ?_) | (refine FrS.inr ?_) | (refine Fr.ite ?_ ?_) | (refine Fr.up ?_ (by simp)) | (refine Fr.upJ ?_ (by simp)))
set_option maxRecDepth 20000 in
set_option maxHeartbeats 4000000 in
theorem fr_X8_start (p0 : Int32) (p1 : Int32) (μ : Mm) : Fr [33] μ (e_X8_start p0 p1 μ) := by
  unfold e_X8_start
  repeat' (first | (with_reducible exact Fr.rfl) | (extract_lets) | (refine FrS.ite ?_ ?_) | (refine FrS.inl ?_) | (refine FrS.inr ?_) | (refine Fr.ite ?_ ?_) | (refine Fr.up ?_ (by simp)) | (refine Fr.upJ ?_ (by simp)))
set_option maxRecDepth 20000 in
set_option maxHeartbeats 4000000 in
theorem fr_X9_clear  (μ : Mm) : Fr [25] μ (e_X9_clear  μ) := by
  unfold e_X9_clear
  repeat' (first | (with_reducible exact Fr.rfl) | (extract_lets) | (refine FrS.ite ?_ ?_) | (refine FrS.inl ?_) | (refine FrS.inr ?_) | (refine Fr.ite ?_ ?_) | (refine Fr.up ?_ (by simp)) | (refine Fr.upJ ?_ (by simp)))
set_option maxRecDepth 20000 in
set_option maxHeartbeats 4000000 in
theorem fr_X9_cut (p0 : Int32) (μ : Mm) : Fr [25] μ (e_X9_cut p0 μ) := by
  unfold e_X9_cut
  repeat' (first | (with_reducible exact Fr.rfl) | (extract_lets) | (refine FrS.ite ?_ ?_) | (refine FrS.inl ?_) | (refine FrS.inr ?_) | (refine Fr.ite ?_ ?_) | (refine Fr.up ?_ (by simp)) | (refine Fr.upJ ?_ (by simp)))
set_option maxRecDepth 20000 in
set_option maxHeartbeats 4000000 in
theorem fr_X11_end (p0 : Int32) (μ : Mm) : Fr [25] μ (e_X11_end p0 μ) := by
  unfold e_X11_end
  repeat' (first | (with_reducible exact Fr.rfl) | (extract_lets) | (refine FrS.ite ?_ ?_) | (refine FrS.inl ?_) | (refine FrS.inr ?_) | (refine Fr.ite ?_ ?_) | (refine Fr.up ?_ (by simp)) | (refine Fr.upJ ?_ (by simp)) | (refine Fr.call ?_ (fr_X9_cut _ _) (by simp)))
set_option maxRecDepth 20000 in
set_option maxHeartbeats 4000000 in
theorem fr_X11_heard (p0 : Int32) (p1 : Int32) (μ : Mm) : Fr [42, 43, 44] μ (e_X11_heard p0 p1 μ) := by
  unfold e_X11_heard
  repeat' (first | (with_reducible exact Fr.rfl) | (extract_lets) | (refine FrS.ite ?_ ?_) | (refine FrS.inl ?_) | (refine FrS.inr ?_) | (refine Fr.ite ?_ ?_) | (refine Fr.up ?_ (by simp)) | (refine Fr.upJ ?_ (by simp)) | (refine Fr.call ?_ (fr_X2_add _ _ _) (by simp)))
set_option maxRecDepth 20000 in
set_option maxHeartbeats 4000000 in
theorem fr_X11_seen (p0 : Int32) (p1 : Int32) (p2 : Int32) (μ : Mm) : Fr [38, 39, 40, 41] μ (e_X11_seen p0 p1 p2 μ) := by
  unfold e_X11_seen
  repeat' (first | (with_reducible exact Fr.rfl) | (extract_lets) | (refine FrS.ite ?_ ?_) | (refine FrS.inl ?_) | (refine FrS.inr ?_) | (refine Fr.ite ?_ ?_) | (refine Fr.up ?_ (by simp)) | (refine Fr.upJ ?_ (by simp)) | (refine Fr.call ?_ (fr_X6_add _ _ _ _) (by simp)))
set_option maxRecDepth 20000 in
set_option maxHeartbeats 4000000 in
theorem fr_X12_begins (p0 : Int32) (μ : Mm) : Fr [49] μ (e_X12_begins p0 μ) := by
  unfold e_X12_begins
  repeat' (first | (with_reducible exact Fr.rfl) | (extract_lets) | (refine FrS.ite ?_ ?_) | (refine FrS.inl ?_) | (refine FrS.inr ?_) | (refine Fr.ite ?_ ?_) | (refine Fr.up ?_ (by simp)) | (refine Fr.upJ ?_ (by simp)))
set_option maxRecDepth 20000 in
set_option maxHeartbeats 4000000 in
theorem fr_X12_digitIn (p0 : Int32) (p1 : Int32) (μ : Mm) : Fr [49] μ (e_X12_digitIn p0 p1 μ) := by
  unfold e_X12_digitIn
  repeat' (first | (with_reducible exact Fr.rfl) | (extract_lets) | (refine FrS.ite ?_ ?_) | (refine FrS.inl ?_) | (refine FrS.inr ?_) | (refine Fr.ite ?_ ?_) | (refine Fr.up ?_ (by simp)) | (refine Fr.upJ ?_ (by simp)))
set_option maxRecDepth 20000 in
set_option maxHeartbeats 4000000 in
theorem fr_X12_end (p0 : Int32) (μ : Mm) : Fr [49] μ (e_X12_end p0 μ) := by
  unfold e_X12_end
  repeat' (first | (with_reducible exact Fr.rfl) | (extract_lets) | (refine FrS.ite ?_ ?_) | (refine FrS.inl ?_) | (refine FrS.inr ?_) | (refine Fr.ite ?_ ?_) | (refine Fr.up ?_ (by simp)) | (refine Fr.upJ ?_ (by simp)))
set_option maxRecDepth 20000 in
set_option maxHeartbeats 4000000 in
theorem fr_X12_entersFewest (p0 : Int32) (μ : Mm) : Fr [49, 50] μ (e_X12_entersFewest p0 μ) := by
  unfold e_X12_entersFewest
  repeat' (first | (with_reducible exact Fr.rfl) | (extract_lets) | (refine FrS.ite ?_ ?_) | (refine FrS.inl ?_) | (refine FrS.inr ?_) | (refine Fr.ite ?_ ?_) | (refine Fr.up ?_ (by simp)) | (refine Fr.upJ ?_ (by simp)) | (refine Fr.call ?_ (fr_X12_enters _ _) (by simp)))
set_option maxRecDepth 20000 in
set_option maxHeartbeats 4000000 in
theorem fr_X12_row (p0 : Int32) (μ : Mm) : Fr [49] μ (e_X12_row p0 μ) := by
  unfold e_X12_row
  repeat' (first | (with_reducible exact Fr.rfl) | (extract_lets) | (refine FrS.ite ?_ ?_) | (refine FrS.inl ?_) | (refine FrS.inr ?_) | (refine Fr.ite ?_ ?_) | (refine Fr.up ?_ (by simp)) | (refine Fr.upJ ?_ (by simp)))
set_option maxRecDepth 20000 in
set_option maxHeartbeats 4000000 in
theorem fr_X12_takes (p0 : Int32) (μ : Mm) : Fr [49] μ (e_X12_takes p0 μ) := by
  unfold e_X12_takes
  repeat' (first | (with_reducible exact Fr.rfl) | (extract_lets) | (refine FrS.ite ?_ ?_) | (refine FrS.inl ?_) | (refine FrS.inr ?_) | (refine Fr.ite ?_ ?_) | (refine Fr.up ?_ (by simp)) | (refine Fr.upJ ?_ (by simp)))
set_option maxRecDepth 20000 in
set_option maxHeartbeats 4000000 in
theorem fr_X1_burden (b : Nat) (p0 : Int32) (p1 : Int32) (μ : Mm) : Fr [(b + 4)] μ (e_X1_burden b p0 p1 μ) := by
  unfold e_X1_burden
  repeat' (first | (with_reducible exact Fr.rfl) | (extract_lets) | (refine FrS.ite ?_ ?_) | (refine FrS.inl ?_) | (refine FrS.inr ?_) | (refine Fr.ite ?_ ?_) | (refine Fr.up ?_ (by simp)) | (refine Fr.upJ ?_ (by simp)))
set_option maxRecDepth 20000 in
set_option maxHeartbeats 4000000 in
theorem fr_X1_lead (b : Nat) (p0 : Int32) (p1 : Int32) (μ : Mm) : Fr [(b + 3)] μ (e_X1_lead b p0 p1 μ) := by
  unfold e_X1_lead
  repeat' (first | (with_reducible exact Fr.rfl) | (extract_lets) | (refine FrS.ite ?_ ?_) | (refine FrS.inl ?_) | (refine FrS.inr ?_) | (refine Fr.ite ?_ ?_) | (refine Fr.up ?_ (by simp)) | (refine Fr.upJ ?_ (by simp)))
set_option maxRecDepth 20000 in
set_option maxHeartbeats 4000000 in
theorem fr_X1_stepOffOrOn (b : Nat) (p0 : Int32) (μ : Mm) : Fr [b] μ (e_X1_stepOffOrOn b p0 μ) := by
  unfold e_X1_stepOffOrOn
  repeat' (first | (with_reducible exact Fr.rfl) | (extract_lets) | (refine FrS.ite ?_ ?_) | (refine FrS.inl ?_) | (refine FrS.inr ?_) | (refine Fr.ite ?_ ?_) | (refine Fr.up ?_ (by simp)) | (refine Fr.upJ ?_ (by simp)))
set_option maxRecDepth 20000 in
set_option maxHeartbeats 4000000 in
theorem fr_X1_turn (b : Nat) (p0 : Int32) (p1 : Int32) (μ : Mm) : Fr [(b + 2)] μ (e_X1_turn b p0 p1 μ) := by
  unfold e_X1_turn
  repeat' (first | (with_reducible exact Fr.rfl) | (extract_lets) | (refine FrS.ite ?_ ?_) | (refine FrS.inl ?_) | (refine FrS.inr ?_) | (refine Fr.ite ?_ ?_) | (refine Fr.up ?_ (by simp)) | (refine Fr.upJ ?_ (by simp)))
set_option maxRecDepth 20000 in
set_option maxHeartbeats 4000000 in
theorem fr_X3_commit  (μ : Mm) : Fr [29] μ (e_X3_commit  μ) := by
  unfold e_X3_commit
  repeat' (first | (with_reducible exact Fr.rfl) | (extract_lets) | (refine FrS.ite ?_ ?_) | (refine FrS.inl ?_) | (refine FrS.inr ?_) | (refine Fr.ite ?_ ?_) | (refine Fr.up ?_ (by simp)) | (refine Fr.upJ ?_ (by simp)))
set_option maxRecDepth 20000 in
set_option maxHeartbeats 4000000 in
theorem fr_X5_becomeNone (b : Nat) (μ : Mm) : Fr [(b + 1), b] μ (e_X5_becomeNone b μ) := by
  unfold e_X5_becomeNone
  repeat' (first | (with_reducible exact Fr.rfl) | (extract_lets) | (refine FrS.ite ?_ ?_) | (refine FrS.inl ?_) | (refine FrS.inr ?_) | (refine Fr.ite ?_ ?_) | (refine Fr.up ?_ (by simp)) | (refine Fr.upJ ?_ (by simp)) | (refine Fr.call ?_ (fr_X5_emit _ _ _) (by simp)))
set_option maxRecDepth 20000 in
set_option maxHeartbeats 4000000 in
theorem fr_X5_open (b : Nat) (μ : Mm) : Fr [(b + 3), (b + 4), b] μ (e_X5_open b μ) := by
  unfold e_X5_open
  repeat' (first | (with_reducible exact Fr.rfl) | (extract_lets) | (refine FrS.ite ?_ ?_) | (refine FrS.inl ?_) | (refine FrS.inr ?_) | (refine Fr.ite ?_ ?_) | (refine Fr.up ?_ (by simp)) | (refine Fr.upJ ?_ (by simp)) | (refine Fr.call ?_ (fr_X4_push _ _ _) (by simp)))
set_option maxRecDepth 20000 in
set_option maxHeartbeats 4000000 in
theorem fr_X5_startReading (b : Nat) (μ : Mm) : Fr [(b + 3), b] μ (e_X5_startReading b μ) := by
  unfold e_X5_startReading
  repeat' (first | (with_reducible exact Fr.rfl) | (extract_lets) | (refine FrS.ite ?_ ?_) | (refine FrS.inl ?_) | (refine FrS.inr ?_) | (refine Fr.ite ?_ ?_) | (refine Fr.up ?_ (by simp)) | (refine Fr.upJ ?_ (by simp)) | (refine Fr.call ?_ (fr_X4_clear _ _) (by simp)))
set_option maxRecDepth 20000 in
set_option maxHeartbeats 4000000 in
theorem fr_X11_committed (p0 : Int32) (μ : Mm) : Fr [29] μ (e_X11_committed p0 μ) := by
  unfold e_X11_committed
  repeat' (first | (with_reducible exact Fr.rfl) | (extract_lets) | (refine FrS.ite ?_ ?_) | (refine FrS.inl ?_) | (refine FrS.inr ?_) | (refine Fr.ite ?_ ?_) | (refine Fr.up ?_ (by simp)) | (refine Fr.upJ ?_ (by simp)) | (refine Fr.call ?_ (fr_X3_commit _) (by simp)))
set_option maxRecDepth 20000 in
set_option maxHeartbeats 4000000 in
theorem fr_X12_heard (p0 : Int32) (p1 : Int32) (μ : Mm) : Fr [49, 71, 72] μ (e_X12_heard p0 p1 μ) := by
  unfold e_X12_heard
  repeat' (first | (with_reducible exact Fr.rfl) | (extract_lets) | (refine FrS.ite ?_ ?_) | (refine FrS.inl ?_) | (refine FrS.inr ?_) | (refine Fr.ite ?_ ?_) | (refine Fr.up ?_ (by simp)) | (refine Fr.upJ ?_ (by simp)))
set_option maxRecDepth 20000 in
set_option maxHeartbeats 4000000 in
theorem fr_X12_leadsTo (p0 : Int32) (p1 : Int32) (μ : Mm) : Fr [52] μ (e_X12_leadsTo p0 p1 μ) := by
  unfold e_X12_leadsTo
  repeat' (first | (with_reducible exact Fr.rfl) | (extract_lets) | (refine FrS.ite ?_ ?_) | (refine FrS.inl ?_) | (refine FrS.inr ?_) | (refine Fr.ite ?_ ?_) | (refine Fr.up ?_ (by simp)) | (refine Fr.upJ ?_ (by simp)))
set_option maxRecDepth 20000 in
set_option maxHeartbeats 4000000 in
theorem fr_X12_sacksTo (p0 : Int32) (p1 : Int32) (μ : Mm) : Fr [52] μ (e_X12_sacksTo p0 p1 μ) := by
  unfold e_X12_sacksTo
  repeat' (first | (with_reducible exact Fr.rfl) | (extract_lets) | (refine FrS.ite ?_ ?_) | (refine FrS.inl ?_) | (refine FrS.inr ?_) | (refine Fr.ite ?_ ?_) | (refine Fr.up ?_ (by simp)) | (refine Fr.upJ ?_ (by simp)) | (refine Fr.call ?_ (fr_X12_becomes _ _ _ _) (by simp)))
set_option maxRecDepth 20000 in
set_option maxHeartbeats 4000000 in
theorem fr_X12_seen (p0 : Int32) (p1 : Int32) (p2 : Int32) (μ : Mm) : Fr [49, 67, 68, 69] μ (e_X12_seen p0 p1 p2 μ) := by
  unfold e_X12_seen
  repeat' (first | (with_reducible exact Fr.rfl) | (extract_lets) | (refine FrS.ite ?_ ?_) | (refine FrS.inl ?_) | (refine FrS.inr ?_) | (refine Fr.ite ?_ ?_) | (refine Fr.up ?_ (by simp)) | (refine Fr.upJ ?_ (by simp)))
set_option maxRecDepth 20000 in
set_option maxHeartbeats 4000000 in
theorem fr_X12_stepsOff (p0 : Nat) (p1 : Int32) (μ : Mm) : Fr [p0] μ (e_X12_stepsOff p0 p1 μ) := by
  unfold e_X12_stepsOff
  repeat' (first | (with_reducible exact Fr.rfl) | (extract_lets) | (refine FrS.ite ?_ ?_) | (refine FrS.inl ?_) | (refine FrS.inr ?_) | (refine Fr.ite ?_ ?_) | (refine Fr.up ?_ (by simp)) | (refine Fr.upJ ?_ (by simp)))
set_option maxRecDepth 20000 in
set_option maxHeartbeats 4000000 in
theorem fr_X12_wishesTo (p0 : Int32) (p1 : Int32) (μ : Mm) : Fr [52] μ (e_X12_wishesTo p0 p1 μ) := by
  unfold e_X12_wishesTo
  repeat' (first | (with_reducible exact Fr.rfl) | (extract_lets) | (refine FrS.ite ?_ ?_) | (refine FrS.inl ?_) | (refine FrS.inr ?_) | (refine Fr.ite ?_ ?_) | (refine Fr.up ?_ (by simp)) | (refine Fr.upJ ?_ (by simp)) | (refine Fr.call ?_ (fr_X12_becomes _ _ _ _) (by simp)))
set_option maxRecDepth 20000 in
set_option maxHeartbeats 4000000 in
theorem fw_X12_adds_21  (s : Int32 × Int32 × Mm) : Fr [61] (s.2.2) ((fun r : Int32 × Mm => r.2) (whl (fun s : Int32 × Int32 × Mm => bd_X12_adds_21  s.1 s.2.1 s.2.2) (fun s : Int32 × Int32 × Mm => (0, s.2.2)) FU s)) := by
  have key : ∀ s : Int32 × Int32 × Mm, FrS [61] (s.2.2) (fun s : Int32 × Int32 × Mm => s.2.2) (fun r : Int32 × Mm => r.2) ((fun s : Int32 × Int32 × Mm => bd_X12_adds_21  s.1 s.2.1 s.2.2) s) := by
    rintro ⟨x1, x2, μ⟩
    show FrS [61] μ _ _ (bd_X12_adds_21  x1 x2 μ)
    unfold bd_X12_adds_21
    repeat' (first | (with_reducible exact Fr.rfl) | (extract_lets) | (refine FrS.ite ?_ ?_) | (refine FrS.inl ?_) | (refine FrS.inr ?_) | (refine Fr.ite ?_ ?_) | (refine Fr.up ?_ (by simp)) | (refine Fr.upJ ?_ (by simp)))
  refine Fr_whl (S := [61]) (fun s : Int32 × Int32 × Mm => s.2.2) (fun r : Int32 × Mm => r.2) (fun _ => rfl) (fun s s' h => ?_) (fun s r h => ?_) FU s
  · have := key s; rw [h] at this; exact this
  · have := key s; rw [h] at this; exact this
set_option maxRecDepth 20000 in
set_option maxHeartbeats 4000000 in
theorem fr_X12_adds (p0 : Int32) (μ : Mm) : Fr [49, 61] μ (e_X12_adds p0 μ) := by
  unfold e_X12_adds
  repeat' (first | (with_reducible exact Fr.rfl) | (extract_lets) | (refine FrS.ite ?_ ?_) | (refine FrS.inl ?_) | (refine FrS.inr ?_) | (refine Fr.ite ?_ ?_) | (refine Fr.up ?_ (by simp)) | (refine Fr.upJ ?_ (by simp)) | (refine Fr.call ?_ (fw_X12_adds_21  _) (by simp)))
set_option maxRecDepth 20000 in
set_option maxHeartbeats 4000000 in
theorem fw_X12_copies_2  (s : Int32 × Mm) : Fr [53] (s.2) ((fun r : Mm => r) (whl (fun s : Int32 × Mm => bd_X12_copies_2  s.1 s.2) (fun s : Int32 × Mm => s.2) FU s)) := by
  have key : ∀ s : Int32 × Mm, FrS [53] (s.2) (fun s : Int32 × Mm => s.2) (fun r : Mm => r) ((fun s : Int32 × Mm => bd_X12_copies_2  s.1 s.2) s) := by
    rintro ⟨x1, μ⟩
    show FrS [53] μ _ _ (bd_X12_copies_2  x1 μ)
    unfold bd_X12_copies_2
    repeat' (first | (with_reducible exact Fr.rfl) | (extract_lets) | (refine FrS.ite ?_ ?_) | (refine FrS.inl ?_) | (refine FrS.inr ?_) | (refine Fr.ite ?_ ?_) | (refine Fr.up ?_ (by simp)) | (refine Fr.upJ ?_ (by simp)))
  refine Fr_whl (S := [53]) (fun s : Int32 × Mm => s.2) (fun r : Mm => r) (fun _ => rfl) (fun s s' h => ?_) (fun s r h => ?_) FU s
  · have := key s; rw [h] at this; exact this
  · have := key s; rw [h] at this; exact this
set_option maxRecDepth 20000 in
set_option maxHeartbeats 4000000 in
theorem fr_X12_copies  (μ : Mm) : Fr [53] μ (e_X12_copies  μ) := by
  unfold e_X12_copies
  repeat' (first | (with_reducible exact Fr.rfl) | (extract_lets) | (refine FrS.ite ?_ ?_) | (refine FrS.inl ?_) | (refine FrS.inr ?_) | (refine Fr.ite ?_ ?_) | (refine Fr.up ?_ (by simp)) | (refine Fr.upJ ?_ (by simp)) | (refine Fr.call ?_ (fw_X12_copies_2  _) (by simp)))
set_option maxRecDepth 20000 in
set_option maxHeartbeats 4000000 in
theorem fw_X12_laysCode_7 (p0 : Nat) (s : Int32 × Int32 × Mm) : Fr [57] (s.2.2) ((fun r : Mm => r) (whl (fun s : Int32 × Int32 × Mm => bd_X12_laysCode_7 p0 s.1 s.2.1 s.2.2) (fun s : Int32 × Int32 × Mm => s.2.2) FU s)) := by
  have key : ∀ s : Int32 × Int32 × Mm, FrS [57] (s.2.2) (fun s : Int32 × Int32 × Mm => s.2.2) (fun r : Mm => r) ((fun s : Int32 × Int32 × Mm => bd_X12_laysCode_7 p0 s.1 s.2.1 s.2.2) s) := by
    rintro ⟨x2, x3, μ⟩
    show FrS [57] μ _ _ (bd_X12_laysCode_7 p0 x2 x3 μ)
    unfold bd_X12_laysCode_7
    repeat' (first | (with_reducible exact Fr.rfl) | (extract_lets) | (refine FrS.ite ?_ ?_) | (refine FrS.inl ?_) | (refine FrS.inr ?_) | (refine Fr.ite ?_ ?_) | (refine Fr.up ?_ (by simp)) | (refine Fr.upJ ?_ (by simp)))
  refine Fr_whl (S := [57]) (fun s : Int32 × Int32 × Mm => s.2.2) (fun r : Mm => r) (fun _ => rfl) (fun s s' h => ?_) (fun s r h => ?_) FU s
  · have := key s; rw [h] at this; exact this
  · have := key s; rw [h] at this; exact this
set_option maxRecDepth 20000 in
set_option maxHeartbeats 4000000 in
theorem fr_X12_laysCode (p0 : Nat) (p1 : Int32) (μ : Mm) : Fr [49, 57] μ (e_X12_laysCode p0 p1 μ) := by
  unfold e_X12_laysCode
  repeat' (first | (with_reducible exact Fr.rfl) | (extract_lets) | (refine FrS.ite ?_ ?_) | (refine FrS.inl ?_) | (refine FrS.inr ?_) | (refine Fr.ite ?_ ?_) | (refine Fr.up ?_ (by simp)) | (refine Fr.upJ ?_ (by simp)) | (refine Fr.call ?_ (fw_X12_laysCode_7 _ _) (by simp)))
set_option maxRecDepth 20000 in
set_option maxHeartbeats 4000000 in
theorem fw_X12_putsBy_2  (s : Int32 × Mm) : Fr [61] (s.2) ((fun r : Mm => r) (whl (fun s : Int32 × Mm => bd_X12_putsBy_2  s.1 s.2) (fun s : Int32 × Mm => s.2) FU s)) := by
  have key : ∀ s : Int32 × Mm, FrS [61] (s.2) (fun s : Int32 × Mm => s.2) (fun r : Mm => r) ((fun s : Int32 × Mm => bd_X12_putsBy_2  s.1 s.2) s) := by
    rintro ⟨x1, μ⟩
    show FrS [61] μ _ _ (bd_X12_putsBy_2  x1 μ)
    unfold bd_X12_putsBy_2
    repeat' (first | (with_reducible exact Fr.rfl) | (extract_lets) | (refine FrS.ite ?_ ?_) | (refine FrS.inl ?_) | (refine FrS.inr ?_) | (refine Fr.ite ?_ ?_) | (refine Fr.up ?_ (by simp)) | (refine Fr.upJ ?_ (by simp)))
  refine Fr_whl (S := [61]) (fun s : Int32 × Mm => s.2) (fun r : Mm => r) (fun _ => rfl) (fun s s' h => ?_) (fun s r h => ?_) FU s
  · have := key s; rw [h] at this; exact this
  · have := key s; rw [h] at this; exact this
set_option maxRecDepth 20000 in
set_option maxHeartbeats 4000000 in
theorem fr_X12_putsBy  (μ : Mm) : Fr [61] μ (e_X12_putsBy  μ) := by
  unfold e_X12_putsBy
  repeat' (first | (with_reducible exact Fr.rfl) | (extract_lets) | (refine FrS.ite ?_ ?_) | (refine FrS.inl ?_) | (refine FrS.inr ?_) | (refine Fr.ite ?_ ?_) | (refine Fr.up ?_ (by simp)) | (refine Fr.upJ ?_ (by simp)) | (refine Fr.call ?_ (fw_X12_putsBy_2  _) (by simp)))
set_option maxRecDepth 20000 in
set_option maxHeartbeats 4000000 in
theorem fw_X12_sign_18  (s : Int32 × Int32 × Mm) : Fr [54] (s.2.2) ((fun r : Mm => r) (whl (fun s : Int32 × Int32 × Mm => bd_X12_sign_18  s.1 s.2.1 s.2.2) (fun s : Int32 × Int32 × Mm => s.2.2) FU s)) := by
  have key : ∀ s : Int32 × Int32 × Mm, FrS [54] (s.2.2) (fun s : Int32 × Int32 × Mm => s.2.2) (fun r : Mm => r) ((fun s : Int32 × Int32 × Mm => bd_X12_sign_18  s.1 s.2.1 s.2.2) s) := by
    rintro ⟨x1, x2, μ⟩
    show FrS [54] μ _ _ (bd_X12_sign_18  x1 x2 μ)
    unfold bd_X12_sign_18
    repeat' (first | (with_reducible exact Fr.rfl) | (extract_lets) | (refine FrS.ite ?_ ?_) | (refine FrS.inl ?_) | (refine FrS.inr ?_) | (refine Fr.ite ?_ ?_) | (refine Fr.up ?_ (by simp)) | (refine Fr.upJ ?_ (by simp)))
  refine Fr_whl (S := [54]) (fun s : Int32 × Int32 × Mm => s.2.2) (fun r : Mm => r) (fun _ => rfl) (fun s s' h => ?_) (fun s r h => ?_) FU s
  · have := key s; rw [h] at this; exact this
  · have := key s; rw [h] at this; exact this
set_option maxRecDepth 20000 in
set_option maxHeartbeats 4000000 in
theorem fr_X12_sign (p0 : Int32) (μ : Mm) : Fr [49, 54] μ (e_X12_sign p0 μ) := by
  unfold e_X12_sign
  repeat' (first | (with_reducible exact Fr.rfl) | (extract_lets) | (refine FrS.ite ?_ ?_) | (refine FrS.inl ?_) | (refine FrS.inr ?_) | (refine Fr.ite ?_ ?_) | (refine Fr.up ?_ (by simp)) | (refine Fr.upJ ?_ (by simp)) | (refine Fr.call ?_ (fw_X12_sign_18  _) (by simp)))
set_option maxRecDepth 20000 in
set_option maxHeartbeats 4000000 in
theorem fw_X12_undo_26  (s : Int32 × Mm) : Fr [52] (s.2) ((fun r : Mm => r) (whl (fun s : Int32 × Mm => bd_X12_undo_26  s.1 s.2) (fun s : Int32 × Mm => s.2) FU s)) := by
  have key : ∀ s : Int32 × Mm, FrS [52] (s.2) (fun s : Int32 × Mm => s.2) (fun r : Mm => r) ((fun s : Int32 × Mm => bd_X12_undo_26  s.1 s.2) s) := by
    rintro ⟨x1, μ⟩
    show FrS [52] μ _ _ (bd_X12_undo_26  x1 μ)
    unfold bd_X12_undo_26
    repeat' (first | (with_reducible exact Fr.rfl) | (extract_lets) | (refine FrS.ite ?_ ?_) | (refine FrS.inl ?_) | (refine FrS.inr ?_) | (refine Fr.ite ?_ ?_) | (refine Fr.up ?_ (by simp)) | (refine Fr.upJ ?_ (by simp)))
  refine Fr_whl (S := [52]) (fun s : Int32 × Mm => s.2) (fun r : Mm => r) (fun _ => rfl) (fun s s' h => ?_) (fun s r h => ?_) FU s
  · have := key s; rw [h] at this; exact this
  · have := key s; rw [h] at this; exact this
set_option maxRecDepth 20000 in
set_option maxHeartbeats 4000000 in
theorem fr_X12_undo  (μ : Mm) : Fr [49, 52] μ (e_X12_undo  μ) := by
  unfold e_X12_undo
  repeat' (first | (with_reducible exact Fr.rfl) | (extract_lets) | (refine FrS.ite ?_ ?_) | (refine FrS.inl ?_) | (refine FrS.inr ?_) | (refine Fr.ite ?_ ?_) | (refine Fr.up ?_ (by simp)) | (refine Fr.upJ ?_ (by simp)) | (refine Fr.call ?_ (fw_X12_undo_26  _) (by simp)))
set_option maxRecDepth 20000 in
set_option maxHeartbeats 4000000 in
theorem fw_X1_become_10 (b : Nat) (p0 : Nat) (s : Int32 × Mm) : Fr [(b + 1), (b + 2), (b + 3), (b + 4)] (s.2) ((fun r : Mm => r) (whl (fun s : Int32 × Mm => bd_X1_become_10 b p0 s.1 s.2) (fun s : Int32 × Mm => s.2) FU s)) := by
  have key : ∀ s : Int32 × Mm, FrS [(b + 1), (b + 2), (b + 3), (b + 4)] (s.2) (fun s : Int32 × Mm => s.2) (fun r : Mm => r) ((fun s : Int32 × Mm => bd_X1_become_10 b p0 s.1 s.2) s) := by
    rintro ⟨x2, μ⟩
    show FrS [(b + 1), (b + 2), (b + 3), (b + 4)] μ _ _ (bd_X1_become_10 b p0 x2 μ)
    unfold bd_X1_become_10
    repeat' (first | (with_reducible exact Fr.rfl) | (extract_lets) | (refine FrS.ite ?_ ?_) | (refine FrS.inl ?_) | (refine FrS.inr ?_) | (refine Fr.ite ?_ ?_) | (refine Fr.up ?_ (by simp)) | (refine Fr.upJ ?_ (by simp)))
  refine Fr_whl (S := [(b + 1), (b + 2), (b + 3), (b + 4)]) (fun s : Int32 × Mm => s.2) (fun r : Mm => r) (fun _ => rfl) (fun s s' h => ?_) (fun s r h => ?_) FU s
  · have := key s; rw [h] at this; exact this
  · have := key s; rw [h] at this; exact this
set_option maxRecDepth 20000 in
set_option maxHeartbeats 4000000 in
theorem fr_X1_become (b : Nat) (p0 : Nat) (μ : Mm) : Fr [(b + 1), (b + 2), (b + 3), (b + 4), b] μ (e_X1_become b p0 μ) := by
  unfold e_X1_become
  repeat' (first | (with_reducible exact Fr.rfl) | (extract_lets) | (refine FrS.ite ?_ ?_) | (refine FrS.inl ?_) | (refine FrS.inr ?_) | (refine Fr.ite ?_ ?_) | (refine Fr.up ?_ (by simp)) | (refine Fr.upJ ?_ (by simp)) | (refine Fr.call ?_ (fw_X1_become_10 _ _ _) (by simp)))
set_option maxRecDepth 20000 in
set_option maxHeartbeats 4000000 in
theorem fw_X1_readFrom_16 (b : Nat) (p0 : Nat) (n0 : Nat) (s : Int32 × Int32 × Mm) : Fr [(b + 2), (b + 3), (b + 4)] (s.2.2) ((fun r : Int32 × Mm => r.2) (whl (fun s : Int32 × Int32 × Mm => bd_X1_readFrom_16 b p0 n0 s.1 s.2.1 s.2.2) (fun s : Int32 × Int32 × Mm => (0, s.2.2)) FU s)) := by
  have key : ∀ s : Int32 × Int32 × Mm, FrS [(b + 2), (b + 3), (b + 4)] (s.2.2) (fun s : Int32 × Int32 × Mm => s.2.2) (fun r : Int32 × Mm => r.2) ((fun s : Int32 × Int32 × Mm => bd_X1_readFrom_16 b p0 n0 s.1 s.2.1 s.2.2) s) := by
    rintro ⟨x2, x3, μ⟩
    show FrS [(b + 2), (b + 3), (b + 4)] μ _ _ (bd_X1_readFrom_16 b p0 n0 x2 x3 μ)
    unfold bd_X1_readFrom_16
    repeat' (first | (with_reducible exact Fr.rfl) | (extract_lets) | (refine FrS.ite ?_ ?_) | (refine FrS.inl ?_) | (refine FrS.inr ?_) | (refine Fr.ite ?_ ?_) | (refine Fr.up ?_ (by simp)) | (refine Fr.upJ ?_ (by simp)))
  refine Fr_whl (S := [(b + 2), (b + 3), (b + 4)]) (fun s : Int32 × Int32 × Mm => s.2.2) (fun r : Int32 × Mm => r.2) (fun _ => rfl) (fun s s' h => ?_) (fun s r h => ?_) FU s
  · have := key s; rw [h] at this; exact this
  · have := key s; rw [h] at this; exact this
set_option maxRecDepth 20000 in
set_option maxHeartbeats 4000000 in
theorem fr_X1_readFrom (b : Nat) (p0 : Nat) (n0 : Nat) (p1 : Int32) (μ : Mm) : Fr [(b + 2), (b + 3), (b + 4), b] μ (e_X1_readFrom b p0 n0 p1 μ) := by
  unfold e_X1_readFrom
  repeat' (first | (with_reducible exact Fr.rfl) | (extract_lets) | (refine FrS.ite ?_ ?_) | (refine FrS.inl ?_) | (refine FrS.inr ?_) | (refine Fr.ite ?_ ?_) | (refine Fr.up ?_ (by simp)) | (refine Fr.upJ ?_ (by simp)) | (refine Fr.call ?_ (fw_X1_readFrom_16 _ _ _ _) (by simp)))
set_option maxRecDepth 20000 in
set_option maxHeartbeats 4000000 in
theorem fw_X1_writeTo_16 (b : Nat) (p0 : Nat) (n0 : Nat) (s : Int32 × Int32 × Mm) : Fr [p0] (s.2.2) ((fun r : Int32 × Mm => r.2) (whl (fun s : Int32 × Int32 × Mm => bd_X1_writeTo_16 b p0 n0 s.1 s.2.1 s.2.2) (fun s : Int32 × Int32 × Mm => (0, s.2.2)) FU s)) := by
  have key : ∀ s : Int32 × Int32 × Mm, FrS [p0] (s.2.2) (fun s : Int32 × Int32 × Mm => s.2.2) (fun r : Int32 × Mm => r.2) ((fun s : Int32 × Int32 × Mm => bd_X1_writeTo_16 b p0 n0 s.1 s.2.1 s.2.2) s) := by
    rintro ⟨x2, x3, μ⟩
    show FrS [p0] μ _ _ (bd_X1_writeTo_16 b p0 n0 x2 x3 μ)
    unfold bd_X1_writeTo_16
    repeat' (first | (with_reducible exact Fr.rfl) | (extract_lets) | (refine FrS.ite ?_ ?_) | (refine FrS.inl ?_) | (refine FrS.inr ?_) | (refine Fr.ite ?_ ?_) | (refine Fr.up ?_ (by simp)) | (refine Fr.upJ ?_ (by simp)))
  refine Fr_whl (S := [p0]) (fun s : Int32 × Int32 × Mm => s.2.2) (fun r : Int32 × Mm => r.2) (fun _ => rfl) (fun s s' h => ?_) (fun s r h => ?_) FU s
  · have := key s; rw [h] at this; exact this
  · have := key s; rw [h] at this; exact this
set_option maxRecDepth 20000 in
set_option maxHeartbeats 4000000 in
theorem fr_X1_writeTo (b : Nat) (p0 : Nat) (n0 : Nat) (p1 : Int32) (μ : Mm) : Fr [p0] μ (e_X1_writeTo b p0 n0 p1 μ) := by
  unfold e_X1_writeTo
  repeat' (first | (with_reducible exact Fr.rfl) | (extract_lets) | (refine FrS.ite ?_ ?_) | (refine FrS.inl ?_) | (refine FrS.inr ?_) | (refine Fr.ite ?_ ?_) | (refine Fr.up ?_ (by simp)) | (refine Fr.upJ ?_ (by simp)) | (refine Fr.call ?_ (fw_X1_writeTo_16 _ _ _ _) (by simp)))
set_option maxRecDepth 20000 in
set_option maxHeartbeats 4000000 in
theorem fw_X3_loseAll_7  (s : Int32 × Mm) : Fr [32] (s.2) ((fun r : Mm => r) (whl (fun s : Int32 × Mm => bd_X3_loseAll_7  s.1 s.2) (fun s : Int32 × Mm => s.2) FU s)) := by
  have key : ∀ s : Int32 × Mm, FrS [32] (s.2) (fun s : Int32 × Mm => s.2) (fun r : Mm => r) ((fun s : Int32 × Mm => bd_X3_loseAll_7  s.1 s.2) s) := by
    rintro ⟨x1, μ⟩
    show FrS [32] μ _ _ (bd_X3_loseAll_7  x1 μ)
    unfold bd_X3_loseAll_7
    repeat' (first | (with_reducible exact Fr.rfl) | (extract_lets) | (refine FrS.ite ?_ ?_) | (refine FrS.inl ?_) | (refine FrS.inr ?_) | (refine Fr.ite ?_ ?_) | (refine Fr.up ?_ (by simp)) | (refine Fr.upJ ?_ (by simp)))
  refine Fr_whl (S := [32]) (fun s : Int32 × Mm => s.2) (fun r : Mm => r) (fun _ => rfl) (fun s s' h => ?_) (fun s r h => ?_) FU s
  · have := key s; rw [h] at this; exact this
  · have := key s; rw [h] at this; exact this
set_option maxRecDepth 20000 in
set_option maxHeartbeats 4000000 in
theorem fr_X3_loseAll  (μ : Mm) : Fr [29, 32] μ (e_X3_loseAll  μ) := by
  unfold e_X3_loseAll
  repeat' (first | (with_reducible exact Fr.rfl) | (extract_lets) | (refine FrS.ite ?_ ?_) | (refine FrS.inl ?_) | (refine FrS.inr ?_) | (refine Fr.ite ?_ ?_) | (refine Fr.up ?_ (by simp)) | (refine Fr.upJ ?_ (by simp)) | (refine Fr.call ?_ (fw_X3_loseAll_7  _) (by simp)))
set_option maxRecDepth 20000 in
set_option maxHeartbeats 4000000 in
theorem fw_X5_become_2 (b : Nat) (p0 : Nat) (s : Int32 × Mm) : Fr [(b + 1)] (s.2) ((fun r : Mm => r) (whl (fun s : Int32 × Mm => bd_X5_become_2 b p0 s.1 s.2) (fun s : Int32 × Mm => s.2) FU s)) := by
  have key : ∀ s : Int32 × Mm, FrS [(b + 1)] (s.2) (fun s : Int32 × Mm => s.2) (fun r : Mm => r) ((fun s : Int32 × Mm => bd_X5_become_2 b p0 s.1 s.2) s) := by
    rintro ⟨x2, μ⟩
    show FrS [(b + 1)] μ _ _ (bd_X5_become_2 b p0 x2 μ)
    unfold bd_X5_become_2
    repeat' (first | (with_reducible exact Fr.rfl) | (extract_lets) | (refine FrS.ite ?_ ?_) | (refine FrS.inl ?_) | (refine FrS.inr ?_) | (refine Fr.ite ?_ ?_) | (refine Fr.up ?_ (by simp)) | (refine Fr.upJ ?_ (by simp)))
  refine Fr_whl (S := [(b + 1)]) (fun s : Int32 × Mm => s.2) (fun r : Mm => r) (fun _ => rfl) (fun s s' h => ?_) (fun s r h => ?_) FU s
  · have := key s; rw [h] at this; exact this
  · have := key s; rw [h] at this; exact this
set_option maxRecDepth 20000 in
set_option maxHeartbeats 4000000 in
theorem fr_X5_become (b : Nat) (p0 : Nat) (μ : Mm) : Fr [(b + 1), b] μ (e_X5_become b p0 μ) := by
  unfold e_X5_become
  repeat' (first | (with_reducible exact Fr.rfl) | (extract_lets) | (refine FrS.ite ?_ ?_) | (refine FrS.inl ?_) | (refine FrS.inr ?_) | (refine Fr.ite ?_ ?_) | (refine Fr.up ?_ (by simp)) | (refine Fr.upJ ?_ (by simp)) | (refine Fr.call ?_ (fw_X5_become_2 _ _ _) (by simp)))
set_option maxRecDepth 20000 in
set_option maxHeartbeats 4000000 in
theorem fw_X9_addFour_16  (s : Int32 × Int32 × Mm) : Fr [25, 26] (s.2.2) ((fun r : Mm => r) (whl (fun s : Int32 × Int32 × Mm => bd_X9_addFour_16  s.1 s.2.1 s.2.2) (fun s : Int32 × Int32 × Mm => s.2.2) FU s)) := by
  have key : ∀ s : Int32 × Int32 × Mm, FrS [25, 26] (s.2.2) (fun s : Int32 × Int32 × Mm => s.2.2) (fun r : Mm => r) ((fun s : Int32 × Int32 × Mm => bd_X9_addFour_16  s.1 s.2.1 s.2.2) s) := by
    rintro ⟨x1, x2, μ⟩
    show FrS [25, 26] μ _ _ (bd_X9_addFour_16  x1 x2 μ)
    unfold bd_X9_addFour_16
    repeat' (first | (with_reducible exact Fr.rfl) | (extract_lets) | (refine FrS.ite ?_ ?_) | (refine FrS.inl ?_) | (refine FrS.inr ?_) | (refine Fr.ite ?_ ?_) | (refine Fr.up ?_ (by simp)) | (refine Fr.upJ ?_ (by simp)))
  refine Fr_whl (S := [25, 26]) (fun s : Int32 × Int32 × Mm => s.2.2) (fun r : Mm => r) (fun _ => rfl) (fun s s' h => ?_) (fun s r h => ?_) FU s
  · have := key s; rw [h] at this; exact this
  · have := key s; rw [h] at this; exact this
set_option maxRecDepth 20000 in
set_option maxHeartbeats 4000000 in
theorem fr_X9_addFour (p0 : Int32) (μ : Mm) : Fr [25, 26] μ (e_X9_addFour p0 μ) := by
  unfold e_X9_addFour
  repeat' (first | (with_reducible exact Fr.rfl) | (extract_lets) | (refine FrS.ite ?_ ?_) | (refine FrS.inl ?_) | (refine FrS.inr ?_) | (refine Fr.ite ?_ ?_) | (refine Fr.up ?_ (by simp)) | (refine Fr.upJ ?_ (by simp)) | (refine Fr.call ?_ (fw_X9_addFour_16  _) (by simp)))
set_option maxRecDepth 20000 in
set_option maxHeartbeats 4000000 in
theorem fw_X11_bears_26  (s : Int32 × Int32 × Mm) : Fr [12, 27, 28] (s.2.2) ((fun r : Int32 × Mm => r.2) (whl (fun s : Int32 × Int32 × Mm => bd_X11_bears_26  s.1 s.2.1 s.2.2) (fun s : Int32 × Int32 × Mm => (0, s.2.2)) FU s)) := by
  have key : ∀ s : Int32 × Int32 × Mm, FrS [12, 27, 28] (s.2.2) (fun s : Int32 × Int32 × Mm => s.2.2) (fun r : Int32 × Mm => r.2) ((fun s : Int32 × Int32 × Mm => bd_X11_bears_26  s.1 s.2.1 s.2.2) s) := by
    rintro ⟨x1, x2, μ⟩
    show FrS [12, 27, 28] μ _ _ (bd_X11_bears_26  x1 x2 μ)
    unfold bd_X11_bears_26
    repeat' (first | (with_reducible exact Fr.rfl) | (extract_lets) | (refine FrS.ite ?_ ?_) | (refine FrS.inl ?_) | (refine FrS.inr ?_) | (refine Fr.ite ?_ ?_) | (refine Fr.up ?_ (by simp)) | (refine Fr.upJ ?_ (by simp)) | (refine Fr.call ?_ (fr_X10_add _ _) (by simp)) | (refine Fr.call ?_ (fr_X10_begin _) (by simp)) | (refine Fr.call ?_ (fr_X1_become _ _ _) (by simp)))
  refine Fr_whl (S := [12, 27, 28]) (fun s : Int32 × Int32 × Mm => s.2.2) (fun r : Int32 × Mm => r.2) (fun _ => rfl) (fun s s' h => ?_) (fun s r h => ?_) FU s
  · have := key s; rw [h] at this; exact this
  · have := key s; rw [h] at this; exact this
set_option maxRecDepth 20000 in
set_option maxHeartbeats 4000000 in
theorem fr_X11_bears (p0 : Int32) (μ : Mm) : Fr [10, 11, 12, 27, 28, 8, 9] μ (e_X11_bears p0 μ) := by
  unfold e_X11_bears
  repeat' (first | (with_reducible exact Fr.rfl) | (extract_lets) | (refine FrS.ite ?_ ?_) | (refine FrS.inl ?_) | (refine FrS.inr ?_) | (refine Fr.ite ?_ ?_) | (refine Fr.up ?_ (by simp)) | (refine Fr.upJ ?_ (by simp)) | (refine Fr.call ?_ (fr_X10_add _ _) (by simp)) | (refine Fr.call ?_ (fr_X10_begin _) (by simp)) | (refine Fr.call ?_ (fr_X1_become _ _ _) (by simp)) | (refine Fr.call ?_ (fw_X11_bears_26  _) (by simp)))
set_option maxRecDepth 20000 in
set_option maxHeartbeats 4000000 in
theorem fr_X11_farthest  (μ : Mm) : Fr [27, 28] μ (e_X11_farthest  μ) := by
  unfold e_X11_farthest
  repeat' (first | (with_reducible exact Fr.rfl) | (extract_lets) | (refine FrS.ite ?_ ?_) | (refine FrS.inl ?_) | (refine FrS.inr ?_) | (refine Fr.ite ?_ ?_) | (refine Fr.up ?_ (by simp)) | (refine Fr.upJ ?_ (by simp)) | (refine Fr.call ?_ (fr_X10_add _ _) (by simp)) | (refine Fr.call ?_ (fr_X10_begin _) (by simp)))
set_option maxRecDepth 20000 in
set_option maxHeartbeats 4000000 in
theorem fr_X11_sign (p0 : Int32) (μ : Mm) : Fr [25, 26] μ (e_X11_sign p0 μ) := by
  unfold e_X11_sign
  repeat' (first | (with_reducible exact Fr.rfl) | (extract_lets) | (refine FrS.ite ?_ ?_) | (refine FrS.inl ?_) | (refine FrS.inr ?_) | (refine Fr.ite ?_ ?_) | (refine Fr.up ?_ (by simp)) | (refine Fr.upJ ?_ (by simp)) | (refine Fr.call ?_ (fr_X9_addFour _ _) (by simp)))
set_option maxRecDepth 20000 in
set_option maxHeartbeats 4000000 in
theorem fr_X11_tellFraction (p0 : Int64) (p1 : Int64) (μ : Mm) : Fr [27, 28] μ (e_X11_tellFraction p0 p1 μ) := by
  unfold e_X11_tellFraction
  repeat' (first | (with_reducible exact Fr.rfl) | (extract_lets) | (refine FrS.ite ?_ ?_) | (refine FrS.inl ?_) | (refine FrS.inr ?_) | (refine Fr.ite ?_ ?_) | (refine Fr.up ?_ (by simp)) | (refine Fr.upJ ?_ (by simp)) | (refine Fr.call ?_ (fr_X10_add _ _) (by simp)) | (refine Fr.call ?_ (fr_X10_begin _) (by simp)))
set_option maxRecDepth 20000 in
set_option maxHeartbeats 4000000 in
theorem fw_X11_tellPlacesOfTrial_2  (s : Int32 × Mm) : Fr [27, 28] (s.2) ((fun r : Mm => r) (whl (fun s : Int32 × Mm => bd_X11_tellPlacesOfTrial_2  s.1 s.2) (fun s : Int32 × Mm => s.2) FU s)) := by
  have key : ∀ s : Int32 × Mm, FrS [27, 28] (s.2) (fun s : Int32 × Mm => s.2) (fun r : Mm => r) ((fun s : Int32 × Mm => bd_X11_tellPlacesOfTrial_2  s.1 s.2) s) := by
    rintro ⟨x1, μ⟩
    show FrS [27, 28] μ _ _ (bd_X11_tellPlacesOfTrial_2  x1 μ)
    unfold bd_X11_tellPlacesOfTrial_2
    repeat' (first | (with_reducible exact Fr.rfl) | (extract_lets) | (refine FrS.ite ?_ ?_) | (refine FrS.inl ?_) | (refine FrS.inr ?_) | (refine Fr.ite ?_ ?_) | (refine Fr.up ?_ (by simp)) | (refine Fr.upJ ?_ (by simp)) | (refine Fr.call ?_ (fr_X10_add _ _) (by simp)))
  refine Fr_whl (S := [27, 28]) (fun s : Int32 × Mm => s.2) (fun r : Mm => r) (fun _ => rfl) (fun s s' h => ?_) (fun s r h => ?_) FU s
  · have := key s; rw [h] at this; exact this
  · have := key s; rw [h] at this; exact this
set_option maxRecDepth 20000 in
set_option maxHeartbeats 4000000 in
theorem fr_X11_tellPlacesOfTrial  (μ : Mm) : Fr [27, 28] μ (e_X11_tellPlacesOfTrial  μ) := by
  unfold e_X11_tellPlacesOfTrial
  repeat' (first | (with_reducible exact Fr.rfl) | (extract_lets) | (refine FrS.ite ?_ ?_) | (refine FrS.inl ?_) | (refine FrS.inr ?_) | (refine Fr.ite ?_ ?_) | (refine Fr.up ?_ (by simp)) | (refine Fr.upJ ?_ (by simp)) | (refine Fr.call ?_ (fr_X10_add _ _) (by simp)) | (refine Fr.call ?_ (fw_X11_tellPlacesOfTrial_2  _) (by simp)))
set_option maxRecDepth 20000 in
set_option maxHeartbeats 4000000 in
theorem fw_X12_again_43  (s : Int32 × Int32 × Mm) : Fr [52] (s.2.2) ((fun r : Mm => r) (whl (fun s : Int32 × Int32 × Mm => bd_X12_again_43  s.1 s.2.1 s.2.2) (fun s : Int32 × Int32 × Mm => s.2.2) FU s)) := by
  have key : ∀ s : Int32 × Int32 × Mm, FrS [52] (s.2.2) (fun s : Int32 × Int32 × Mm => s.2.2) (fun r : Mm => r) ((fun s : Int32 × Int32 × Mm => bd_X12_again_43  s.1 s.2.1 s.2.2) s) := by
    rintro ⟨x1, x2, μ⟩
    show FrS [52] μ _ _ (bd_X12_again_43  x1 x2 μ)
    unfold bd_X12_again_43
    repeat' (first | (with_reducible exact Fr.rfl) | (extract_lets) | (refine FrS.ite ?_ ?_) | (refine FrS.inl ?_) | (refine FrS.inr ?_) | (refine Fr.ite ?_ ?_) | (refine Fr.up ?_ (by simp)) | (refine Fr.upJ ?_ (by simp)))
  refine Fr_whl (S := [52]) (fun s : Int32 × Int32 × Mm => s.2.2) (fun r : Mm => r) (fun _ => rfl) (fun s s' h => ?_) (fun s r h => ?_) FU s
  · have := key s; rw [h] at this; exact this
  · have := key s; rw [h] at this; exact this
set_option maxRecDepth 20000 in
set_option maxHeartbeats 4000000 in
theorem fr_X12_again (p0 : Int32) (μ : Mm) : Fr [49, 52] μ (e_X12_again p0 μ) := by
  unfold e_X12_again
  repeat' (first | (with_reducible exact Fr.rfl) | (extract_lets) | (refine FrS.ite ?_ ?_) | (refine FrS.inl ?_) | (refine FrS.inr ?_) | (refine Fr.ite ?_ ?_) | (refine Fr.up ?_ (by simp)) | (refine Fr.upJ ?_ (by simp)) | (refine Fr.call ?_ (fw_X12_again_43  _) (by simp)))
set_option maxRecDepth 20000 in
set_option maxHeartbeats 4000000 in
theorem fr_X12_counted (p0 : Int32) (μ : Mm) : Fr [49, 61] μ (e_X12_counted p0 μ) := by
  unfold e_X12_counted
  repeat' (first | (with_reducible exact Fr.rfl) | (extract_lets) | (refine FrS.ite ?_ ?_) | (refine FrS.inl ?_) | (refine FrS.inr ?_) | (refine Fr.ite ?_ ?_) | (refine Fr.up ?_ (by simp)) | (refine Fr.upJ ?_ (by simp)) | (refine Fr.call ?_ (fr_X12_adds _ _) (by simp)))
set_option maxRecDepth 20000 in
set_option maxHeartbeats 4000000 in
theorem fw_X12_entersPlaces_2  (s : Int32 × Mm) : Fr [49, 50] (s.2) ((fun r : Mm => r) (whl (fun s : Int32 × Mm => bd_X12_entersPlaces_2  s.1 s.2) (fun s : Int32 × Mm => s.2) FU s)) := by
  have key : ∀ s : Int32 × Mm, FrS [49, 50] (s.2) (fun s : Int32 × Mm => s.2) (fun r : Mm => r) ((fun s : Int32 × Mm => bd_X12_entersPlaces_2  s.1 s.2) s) := by
    rintro ⟨x1, μ⟩
    show FrS [49, 50] μ _ _ (bd_X12_entersPlaces_2  x1 μ)
    unfold bd_X12_entersPlaces_2
    repeat' (first | (with_reducible exact Fr.rfl) | (extract_lets) | (refine FrS.ite ?_ ?_) | (refine FrS.inl ?_) | (refine FrS.inr ?_) | (refine Fr.ite ?_ ?_) | (refine Fr.up ?_ (by simp)) | (refine Fr.upJ ?_ (by simp)) | (refine Fr.call ?_ (fr_X12_enters _ _) (by simp)))
  refine Fr_whl (S := [49, 50]) (fun s : Int32 × Mm => s.2) (fun r : Mm => r) (fun _ => rfl) (fun s s' h => ?_) (fun s r h => ?_) FU s
  · have := key s; rw [h] at this; exact this
  · have := key s; rw [h] at this; exact this
set_option maxRecDepth 20000 in
set_option maxHeartbeats 4000000 in
theorem fr_X12_entersPlaces  (μ : Mm) : Fr [49, 50] μ (e_X12_entersPlaces  μ) := by
  unfold e_X12_entersPlaces
  repeat' (first | (with_reducible exact Fr.rfl) | (extract_lets) | (refine FrS.ite ?_ ?_) | (refine FrS.inl ?_) | (refine FrS.inr ?_) | (refine Fr.ite ?_ ?_) | (refine Fr.up ?_ (by simp)) | (refine Fr.upJ ?_ (by simp)) | (refine Fr.call ?_ (fr_X12_enters _ _) (by simp)) | (refine Fr.call ?_ (fw_X12_entersPlaces_2  _) (by simp)))
set_option maxRecDepth 20000 in
set_option maxHeartbeats 4000000 in
theorem fr_X12_farthest  (μ : Mm) : Fr [49, 50] μ (e_X12_farthest  μ) := by
  unfold e_X12_farthest
  repeat' (first | (with_reducible exact Fr.rfl) | (extract_lets) | (refine FrS.ite ?_ ?_) | (refine FrS.inl ?_) | (refine FrS.inr ?_) | (refine Fr.ite ?_ ?_) | (refine Fr.up ?_ (by simp)) | (refine Fr.upJ ?_ (by simp)) | (refine Fr.call ?_ (fr_X12_enters _ _) (by simp)))
set_option maxRecDepth 20000 in
set_option maxHeartbeats 4000000 in
theorem fw_X12_keep_38  (s : Int32 × Int32 × Mm) : Fr [77] (s.2.2) ((fun r : Mm => r) (whl (fun s : Int32 × Int32 × Mm => bd_X12_keep_38  s.1 s.2.1 s.2.2) (fun s : Int32 × Int32 × Mm => s.2.2) FU s)) := by
  have key : ∀ s : Int32 × Int32 × Mm, FrS [77] (s.2.2) (fun s : Int32 × Int32 × Mm => s.2.2) (fun r : Mm => r) ((fun s : Int32 × Int32 × Mm => bd_X12_keep_38  s.1 s.2.1 s.2.2) s) := by
    rintro ⟨x1, x2, μ⟩
    show FrS [77] μ _ _ (bd_X12_keep_38  x1 x2 μ)
    unfold bd_X12_keep_38
    repeat' (first | (with_reducible exact Fr.rfl) | (extract_lets) | (refine FrS.ite ?_ ?_) | (refine FrS.inl ?_) | (refine FrS.inr ?_) | (refine Fr.ite ?_ ?_) | (refine Fr.up ?_ (by simp)) | (refine Fr.upJ ?_ (by simp)))
  refine Fr_whl (S := [77]) (fun s : Int32 × Int32 × Mm => s.2.2) (fun r : Mm => r) (fun _ => rfl) (fun s s' h => ?_) (fun s r h => ?_) FU s
  · have := key s; rw [h] at this; exact this
  · have := key s; rw [h] at this; exact this
set_option maxRecDepth 20000 in
set_option maxHeartbeats 4000000 in
theorem fr_X12_keep (p0 : Int32) (μ : Mm) : Fr [49, 75, 76, 77] μ (e_X12_keep p0 μ) := by
  unfold e_X12_keep
  repeat' (first | (with_reducible exact Fr.rfl) | (extract_lets) | (refine FrS.ite ?_ ?_) | (refine FrS.inl ?_) | (refine FrS.inr ?_) | (refine Fr.ite ?_ ?_) | (refine Fr.up ?_ (by simp)) | (refine Fr.upJ ?_ (by simp)) | (refine Fr.call ?_ (fw_X12_keep_38  _) (by simp)))
set_option maxRecDepth 20000 in
set_option maxHeartbeats 4000000 in
theorem fw_X12_plank_43  (s : Int32 × Int32 × Int32 × Int32 × Mm) : Fr [73] (s.2.2.2.2) ((fun r : Int32 × Int32 × Int32 × Mm => r.2.2.2) (whl (fun s : Int32 × Int32 × Int32 × Int32 × Mm => bd_X12_plank_43  s.1 s.2.1 s.2.2.1 s.2.2.2.1 s.2.2.2.2) (fun s : Int32 × Int32 × Int32 × Int32 × Mm => (0, 0, 0, s.2.2.2.2)) FU s)) := by
  have key : ∀ s : Int32 × Int32 × Int32 × Int32 × Mm, FrS [73] (s.2.2.2.2) (fun s : Int32 × Int32 × Int32 × Int32 × Mm => s.2.2.2.2) (fun r : Int32 × Int32 × Int32 × Mm => r.2.2.2) ((fun s : Int32 × Int32 × Int32 × Int32 × Mm => bd_X12_plank_43  s.1 s.2.1 s.2.2.1 s.2.2.2.1 s.2.2.2.2) s) := by
    rintro ⟨x1, x2, x3, x4, μ⟩
    show FrS [73] μ _ _ (bd_X12_plank_43  x1 x2 x3 x4 μ)
    unfold bd_X12_plank_43
    repeat' (first | (with_reducible exact Fr.rfl) | (extract_lets) | (refine FrS.ite ?_ ?_) | (refine FrS.inl ?_) | (refine FrS.inr ?_) | (refine Fr.ite ?_ ?_) | (refine Fr.up ?_ (by simp)) | (refine Fr.upJ ?_ (by simp)))
  refine Fr_whl (S := [73]) (fun s : Int32 × Int32 × Int32 × Int32 × Mm => s.2.2.2.2) (fun r : Int32 × Int32 × Int32 × Mm => r.2.2.2) (fun _ => rfl) (fun s s' h => ?_) (fun s r h => ?_) FU s
  · have := key s; rw [h] at this; exact this
  · have := key s; rw [h] at this; exact this
set_option maxRecDepth 20000 in
set_option maxHeartbeats 4000000 in
theorem fw_X12_plank_35  (s : Int32 × Int32 × Int32 × Mm) : Fr [73] (s.2.2.2) ((fun r : Int32 × Mm => r.2) (whl (fun s : Int32 × Int32 × Int32 × Mm => bd_X12_plank_35  s.1 s.2.1 s.2.2.1 s.2.2.2) (fun s : Int32 × Int32 × Int32 × Mm => (0, s.2.2.2)) FU s)) := by
  have key : ∀ s : Int32 × Int32 × Int32 × Mm, FrS [73] (s.2.2.2) (fun s : Int32 × Int32 × Int32 × Mm => s.2.2.2) (fun r : Int32 × Mm => r.2) ((fun s : Int32 × Int32 × Int32 × Mm => bd_X12_plank_35  s.1 s.2.1 s.2.2.1 s.2.2.2) s) := by
    rintro ⟨x1, x2, x3, μ⟩
    show FrS [73] μ _ _ (bd_X12_plank_35  x1 x2 x3 μ)
    unfold bd_X12_plank_35
    repeat' (first | (with_reducible exact Fr.rfl) | (extract_lets) | (refine FrS.ite ?_ ?_) | (refine FrS.inl ?_) | (refine FrS.inr ?_) | (refine Fr.ite ?_ ?_) | (refine Fr.up ?_ (by simp)) | (refine Fr.upJ ?_ (by simp)) | (refine Fr.call ?_ (fw_X12_plank_43  _) (by simp)))
  refine Fr_whl (S := [73]) (fun s : Int32 × Int32 × Int32 × Mm => s.2.2.2) (fun r : Int32 × Mm => r.2) (fun _ => rfl) (fun s s' h => ?_) (fun s r h => ?_) FU s
  · have := key s; rw [h] at this; exact this
  · have := key s; rw [h] at this; exact this
set_option maxRecDepth 20000 in
set_option maxHeartbeats 4000000 in
theorem fr_X12_plank (p0 : Int32) (p1 : Int32) (μ : Mm) : Fr [49, 73] μ (e_X12_plank p0 p1 μ) := by
  unfold e_X12_plank
  repeat' (first | (with_reducible exact Fr.rfl) | (extract_lets) | (refine FrS.ite ?_ ?_) | (refine FrS.inl ?_) | (refine FrS.inr ?_) | (refine Fr.ite ?_ ?_) | (refine Fr.up ?_ (by simp)) | (refine Fr.upJ ?_ (by simp)) | (refine Fr.call ?_ (fw_X12_plank_43  _) (by simp)) | (refine Fr.call ?_ (fw_X12_plank_35  _) (by simp)))
set_option maxRecDepth 20000 in
set_option maxHeartbeats 4000000 in
theorem fw_X12_sheet_46  (s : Int32 × Int32 × Int32 × Int32 × Int32 × Int32 × Mm) : Fr [51] (s.2.2.2.2.2.2) ((fun r : Int32 × Int32 × Mm => r.2.2) (whl (fun s : Int32 × Int32 × Int32 × Int32 × Int32 × Int32 × Mm => bd_X12_sheet_46  s.1 s.2.1 s.2.2.1 s.2.2.2.1 s.2.2.2.2.1 s.2.2.2.2.2.1 s.2.2.2.2.2.2) (fun s : Int32 × Int32 × Int32 × Int32 × Int32 × Int32 × Mm => (0, 0, s.2.2.2.2.2.2)) FU s)) := by
  have key : ∀ s : Int32 × Int32 × Int32 × Int32 × Int32 × Int32 × Mm, FrS [51] (s.2.2.2.2.2.2) (fun s : Int32 × Int32 × Int32 × Int32 × Int32 × Int32 × Mm => s.2.2.2.2.2.2) (fun r : Int32 × Int32 × Mm => r.2.2) ((fun s : Int32 × Int32 × Int32 × Int32 × Int32 × Int32 × Mm => bd_X12_sheet_46  s.1 s.2.1 s.2.2.1 s.2.2.2.1 s.2.2.2.2.1 s.2.2.2.2.2.1 s.2.2.2.2.2.2) s) := by
    rintro ⟨x1, x2, x4, x5, x6, x7, μ⟩
    show FrS [51] μ _ _ (bd_X12_sheet_46  x1 x2 x4 x5 x6 x7 μ)
    unfold bd_X12_sheet_46
    repeat' (first | (with_reducible exact Fr.rfl) | (extract_lets) | (refine FrS.ite ?_ ?_) | (refine FrS.inl ?_) | (refine FrS.inr ?_) | (refine Fr.ite ?_ ?_) | (refine Fr.up ?_ (by simp)) | (refine Fr.upJ ?_ (by simp)))
  refine Fr_whl (S := [51]) (fun s : Int32 × Int32 × Int32 × Int32 × Int32 × Int32 × Mm => s.2.2.2.2.2.2) (fun r : Int32 × Int32 × Mm => r.2.2) (fun _ => rfl) (fun s s' h => ?_) (fun s r h => ?_) FU s
  · have := key s; rw [h] at this; exact this
  · have := key s; rw [h] at this; exact this
set_option maxRecDepth 20000 in
set_option maxHeartbeats 4000000 in
theorem fr_X12_sheet (p0 : Int32) (p1 : Int32) (p2 : Int32) (p3 : Int32) (μ : Mm) : Fr [49, 51] μ (e_X12_sheet p0 p1 p2 p3 μ) := by
  unfold e_X12_sheet
  repeat' (first | (with_reducible exact Fr.rfl) | (extract_lets) | (refine FrS.ite ?_ ?_) | (refine FrS.inl ?_) | (refine FrS.inr ?_) | (refine Fr.ite ?_ ?_) | (refine Fr.up ?_ (by simp)) | (refine Fr.upJ ?_ (by simp)) | (refine Fr.call ?_ (fw_X12_sheet_46  _) (by simp)))
set_option maxRecDepth 20000 in
set_option maxHeartbeats 4000000 in
theorem fr_X3_back (p0 : Nat) (μ : Mm) : Fr [(p0 + 2), (p0 + 3), (p0 + 4), 29, p0] μ (e_X3_back p0 μ) := by
  unfold e_X3_back
  repeat' (first | (with_reducible exact Fr.rfl) | (extract_lets) | (refine FrS.ite ?_ ?_) | (refine FrS.inl ?_) | (refine FrS.inr ?_) | (refine Fr.ite ?_ ?_) | (refine Fr.up ?_ (by simp)) | (refine Fr.upJ ?_ (by simp)) | (refine Fr.call ?_ (fr_X1_readFrom _ _ _ _ _) (by simp)))
set_option maxRecDepth 20000 in
set_option maxHeartbeats 4000000 in
theorem fr_X3_note (p0 : Nat) (μ : Mm) : Fr [30] μ (e_X3_note p0 μ) := by
  unfold e_X3_note
  repeat' (first | (with_reducible exact Fr.rfl) | (extract_lets) | (refine FrS.ite ?_ ?_) | (refine FrS.inl ?_) | (refine FrS.inr ?_) | (refine Fr.ite ?_ ?_) | (refine Fr.up ?_ (by simp)) | (refine Fr.upJ ?_ (by simp)) | (refine Fr.call ?_ (fr_X1_writeTo _ _ _ _ _) (by simp)))
set_option maxRecDepth 20000 in
set_option maxHeartbeats 4000000 in
theorem fr_X3_shelve (p0 : Int32) (p1 : Nat) (μ : Mm) : Fr [31, 32] μ (e_X3_shelve p0 p1 μ) := by
  unfold e_X3_shelve
  repeat' (first | (with_reducible exact Fr.rfl) | (extract_lets) | (refine FrS.ite ?_ ?_) | (refine FrS.inl ?_) | (refine FrS.inr ?_) | (refine Fr.ite ?_ ?_) | (refine Fr.up ?_ (by simp)) | (refine Fr.upJ ?_ (by simp)) | (refine Fr.call ?_ (fr_X1_writeTo _ _ _ _ _) (by simp)))
set_option maxRecDepth 20000 in
set_option maxHeartbeats 4000000 in
theorem fr_X3_takeDown (p0 : Int32) (p1 : Nat) (μ : Mm) : Fr [(p1 + 2), (p1 + 3), (p1 + 4), 29, p1] μ (e_X3_takeDown p0 p1 μ) := by
  unfold e_X3_takeDown
  repeat' (first | (with_reducible exact Fr.rfl) | (extract_lets) | (refine FrS.ite ?_ ?_) | (refine FrS.inl ?_) | (refine FrS.inr ?_) | (refine Fr.ite ?_ ?_) | (refine Fr.up ?_ (by simp)) | (refine Fr.upJ ?_ (by simp)) | (refine Fr.call ?_ (fr_X1_readFrom _ _ _ _ _) (by simp)))
set_option maxRecDepth 20000 in
set_option maxHeartbeats 4000000 in
theorem fw_X5_emitWaiting_2 (b : Nat) (s : Int32 × Int32 × Mm) : Fr [(b + 1), (b + 3), b] (s.2.2) ((fun r : Mm => r) (whl (fun s : Int32 × Int32 × Mm => bd_X5_emitWaiting_2 b s.1 s.2.1 s.2.2) (fun s : Int32 × Int32 × Mm => s.2.2) FU s)) := by
  have key : ∀ s : Int32 × Int32 × Mm, FrS [(b + 1), (b + 3), b] (s.2.2) (fun s : Int32 × Int32 × Mm => s.2.2) (fun r : Mm => r) ((fun s : Int32 × Int32 × Mm => bd_X5_emitWaiting_2 b s.1 s.2.1 s.2.2) s) := by
    rintro ⟨x1, x2, μ⟩
    show FrS [(b + 1), (b + 3), b] μ _ _ (bd_X5_emitWaiting_2 b x1 x2 μ)
    unfold bd_X5_emitWaiting_2
    repeat' (first | (with_reducible exact Fr.rfl) | (extract_lets) | (refine FrS.ite ?_ ?_) | (refine FrS.inl ?_) | (refine FrS.inr ?_) | (refine Fr.ite ?_ ?_) | (refine Fr.up ?_ (by simp)) | (refine Fr.upJ ?_ (by simp)) | (refine Fr.call ?_ (fr_X4_pop _ _) (by simp)) | (refine Fr.call ?_ (fr_X5_emit _ _ _) (by simp)))
  refine Fr_whl (S := [(b + 1), (b + 3), b]) (fun s : Int32 × Int32 × Mm => s.2.2) (fun r : Mm => r) (fun _ => rfl) (fun s s' h => ?_) (fun s r h => ?_) FU s
  · have := key s; rw [h] at this; exact this
  · have := key s; rw [h] at this; exact this
set_option maxRecDepth 20000 in
set_option maxHeartbeats 4000000 in
theorem fr_X5_emitWaiting (b : Nat) (p0 : Int32) (μ : Mm) : Fr [(b + 1), (b + 3), b] μ (e_X5_emitWaiting b p0 μ) := by
  unfold e_X5_emitWaiting
  repeat' (first | (with_reducible exact Fr.rfl) | (extract_lets) | (refine FrS.ite ?_ ?_) | (refine FrS.inl ?_) | (refine FrS.inr ?_) | (refine Fr.ite ?_ ?_) | (refine Fr.up ?_ (by simp)) | (refine Fr.upJ ?_ (by simp)) | (refine Fr.call ?_ (fr_X4_pop _ _) (by simp)) | (refine Fr.call ?_ (fr_X5_emit _ _ _) (by simp)) | (refine Fr.call ?_ (fw_X5_emitWaiting_2 _ _) (by simp)))
set_option maxRecDepth 20000 in
set_option maxHeartbeats 4000000 in
theorem fw_X5_value_4 (b : Nat) (p0 : Nat) (s : Int32 × Int32 × Mm) : Fr [(b + 2)] (s.2.2) ((fun r : Int32 × Mm => r.2) (whl (fun s : Int32 × Int32 × Mm => bd_X5_value_4 b p0 s.1 s.2.1 s.2.2) (fun s : Int32 × Int32 × Mm => (0, s.2.2)) FU s)) := by
  have key : ∀ s : Int32 × Int32 × Mm, FrS [(b + 2)] (s.2.2) (fun s : Int32 × Int32 × Mm => s.2.2) (fun r : Int32 × Mm => r.2) ((fun s : Int32 × Int32 × Mm => bd_X5_value_4 b p0 s.1 s.2.1 s.2.2) s) := by
    rintro ⟨x2, x3, μ⟩
    show FrS [(b + 2)] μ _ _ (bd_X5_value_4 b p0 x2 x3 μ)
    unfold bd_X5_value_4
    repeat' (first | (with_reducible exact Fr.rfl) | (extract_lets) | (refine FrS.ite ?_ ?_) | (refine FrS.inl ?_) | (refine FrS.inr ?_) | (refine Fr.ite ?_ ?_) | (refine Fr.up ?_ (by simp)) | (refine Fr.upJ ?_ (by simp)))
  refine Fr_whl (S := [(b + 2)]) (fun s : Int32 × Int32 × Mm => s.2.2) (fun r : Int32 × Mm => r.2) (fun _ => rfl) (fun s s' h => ?_) (fun s r h => ?_) FU s
  · have := key s; rw [h] at this; exact this
  · have := key s; rw [h] at this; exact this
set_option maxRecDepth 20000 in
set_option maxHeartbeats 4000000 in
theorem fr_X5_value (b : Nat) (p0 : Nat) (μ : Mm) : Fr [(b + 2)] μ (e_X5_value b p0 μ) := by
  unfold e_X5_value
  repeat' (first | (with_reducible exact Fr.rfl) | (extract_lets) | (refine FrS.ite ?_ ?_) | (refine FrS.inl ?_) | (refine FrS.inr ?_) | (refine Fr.ite ?_ ?_) | (refine Fr.up ?_ (by simp)) | (refine Fr.upJ ?_ (by simp)) | (refine Fr.call ?_ (fw_X5_value_4 _ _ _) (by simp)))
set_option maxRecDepth 20000 in
set_option maxHeartbeats 4000000 in
theorem fr_X11_again (p0 : Int32) (μ : Mm) : Fr [1, 29, 3, 4, 5] μ (e_X11_again p0 μ) := by
  unfold e_X11_again
  repeat' (first | (with_reducible exact Fr.rfl) | (extract_lets) | (refine FrS.ite ?_ ?_) | (refine FrS.inl ?_) | (refine FrS.inr ?_) | (refine Fr.ite ?_ ?_) | (refine Fr.up ?_ (by simp)) | (refine Fr.upJ ?_ (by simp)) | (refine Fr.call ?_ (fr_X3_takeDown _ _ _) (by simp)))
set_option maxRecDepth 20000 in
set_option maxHeartbeats 4000000 in
theorem fw_X11_crossings_32  (s : Int32 × Int32 × Int32 × Int32 × Mm) : Fr [27, 28] (s.2.2.2.2) ((fun r : Int32 × Int32 × Int32 × Mm => r.2.2.2) (whl (fun s : Int32 × Int32 × Int32 × Int32 × Mm => bd_X11_crossings_32  s.1 s.2.1 s.2.2.1 s.2.2.2.1 s.2.2.2.2) (fun s : Int32 × Int32 × Int32 × Int32 × Mm => (0, 0, 0, s.2.2.2.2)) FU s)) := by
  have key : ∀ s : Int32 × Int32 × Int32 × Int32 × Mm, FrS [27, 28] (s.2.2.2.2) (fun s : Int32 × Int32 × Int32 × Int32 × Mm => s.2.2.2.2) (fun r : Int32 × Int32 × Int32 × Mm => r.2.2.2) ((fun s : Int32 × Int32 × Int32 × Int32 × Mm => bd_X11_crossings_32  s.1 s.2.1 s.2.2.1 s.2.2.2.1 s.2.2.2.2) s) := by
    rintro ⟨x1, x2, x3, x4, μ⟩
    show FrS [27, 28] μ _ _ (bd_X11_crossings_32  x1 x2 x3 x4 μ)
    unfold bd_X11_crossings_32
    repeat' (first | (with_reducible exact Fr.rfl) | (extract_lets) | (refine FrS.ite ?_ ?_) | (refine FrS.inl ?_) | (refine FrS.inr ?_) | (refine Fr.ite ?_ ?_) | (refine Fr.up ?_ (by simp)) | (refine Fr.upJ ?_ (by simp)) | (refine Fr.call ?_ (fr_X10_add _ _) (by simp)) | (refine Fr.call ?_ (fr_X10_begin _) (by simp)))
  refine Fr_whl (S := [27, 28]) (fun s : Int32 × Int32 × Int32 × Int32 × Mm => s.2.2.2.2) (fun r : Int32 × Int32 × Int32 × Mm => r.2.2.2) (fun _ => rfl) (fun s s' h => ?_) (fun s r h => ?_) FU s
  · have := key s; rw [h] at this; exact this
  · have := key s; rw [h] at this; exact this
set_option maxRecDepth 20000 in
set_option maxHeartbeats 4000000 in
theorem fw_X11_crossings_23  (s : Int32 × Int32 × Int32 × Mm) : Fr [27, 28] (s.2.2.2) ((fun r : Int32 × Mm => r.2) (whl (fun s : Int32 × Int32 × Int32 × Mm => bd_X11_crossings_23  s.1 s.2.1 s.2.2.1 s.2.2.2) (fun s : Int32 × Int32 × Int32 × Mm => (0, s.2.2.2)) FU s)) := by
  have key : ∀ s : Int32 × Int32 × Int32 × Mm, FrS [27, 28] (s.2.2.2) (fun s : Int32 × Int32 × Int32 × Mm => s.2.2.2) (fun r : Int32 × Mm => r.2) ((fun s : Int32 × Int32 × Int32 × Mm => bd_X11_crossings_23  s.1 s.2.1 s.2.2.1 s.2.2.2) s) := by
    rintro ⟨x1, x2, x3, μ⟩
    show FrS [27, 28] μ _ _ (bd_X11_crossings_23  x1 x2 x3 μ)
    unfold bd_X11_crossings_23
    repeat' (first | (with_reducible exact Fr.rfl) | (extract_lets) | (refine FrS.ite ?_ ?_) | (refine FrS.inl ?_) | (refine FrS.inr ?_) | (refine Fr.ite ?_ ?_) | (refine Fr.up ?_ (by simp)) | (refine Fr.upJ ?_ (by simp)) | (refine Fr.call ?_ (fr_X10_add _ _) (by simp)) | (refine Fr.call ?_ (fr_X10_begin _) (by simp)) | (refine Fr.call ?_ (fw_X11_crossings_32  _) (by simp)))
  refine Fr_whl (S := [27, 28]) (fun s : Int32 × Int32 × Int32 × Mm => s.2.2.2) (fun r : Int32 × Mm => r.2) (fun _ => rfl) (fun s s' h => ?_) (fun s r h => ?_) FU s
  · have := key s; rw [h] at this; exact this
  · have := key s; rw [h] at this; exact this
set_option maxRecDepth 20000 in
set_option maxHeartbeats 4000000 in
theorem fr_X11_crossings (p0 : Int32) (μ : Mm) : Fr [27, 28] μ (e_X11_crossings p0 μ) := by
  unfold e_X11_crossings
  repeat' (first | (with_reducible exact Fr.rfl) | (extract_lets) | (refine FrS.ite ?_ ?_) | (refine FrS.inl ?_) | (refine FrS.inr ?_) | (refine Fr.ite ?_ ?_) | (refine Fr.up ?_ (by simp)) | (refine Fr.upJ ?_ (by simp)) | (refine Fr.call ?_ (fr_X10_add _ _) (by simp)) | (refine Fr.call ?_ (fr_X10_begin _) (by simp)) | (refine Fr.call ?_ (fw_X11_crossings_32  _) (by simp)) | (refine Fr.call ?_ (fw_X11_crossings_23  _) (by simp)))
set_option maxRecDepth 20000 in
set_option maxHeartbeats 4000000 in
theorem fr_X11_crowd  (μ : Mm) : Fr [27, 28] μ (e_X11_crowd  μ) := by
  unfold e_X11_crowd
  repeat' (first | (with_reducible exact Fr.rfl) | (extract_lets) | (refine FrS.ite ?_ ?_) | (refine FrS.inl ?_) | (refine FrS.inr ?_) | (refine Fr.ite ?_ ?_) | (refine Fr.up ?_ (by simp)) | (refine Fr.upJ ?_ (by simp)) | (refine Fr.call ?_ (fr_X10_add _ _) (by simp)) | (refine Fr.call ?_ (fr_X10_begin _) (by simp)))
set_option maxRecDepth 20000 in
set_option maxHeartbeats 4000000 in
theorem fw_X11_faints_43  (s : Int32 × Int32 × Int32 × Int32 × Mm) : Fr [34] (s.2.2.2.2) ((fun r : Int32 × Int32 × Int32 × Mm => r.2.2.2) (whl (fun s : Int32 × Int32 × Int32 × Int32 × Mm => bd_X11_faints_43  s.1 s.2.1 s.2.2.1 s.2.2.2.1 s.2.2.2.2) (fun s : Int32 × Int32 × Int32 × Int32 × Mm => (0, 0, 0, s.2.2.2.2)) FU s)) := by
  have key : ∀ s : Int32 × Int32 × Int32 × Int32 × Mm, FrS [34] (s.2.2.2.2) (fun s : Int32 × Int32 × Int32 × Int32 × Mm => s.2.2.2.2) (fun r : Int32 × Int32 × Int32 × Mm => r.2.2.2) ((fun s : Int32 × Int32 × Int32 × Int32 × Mm => bd_X11_faints_43  s.1 s.2.1 s.2.2.1 s.2.2.2.1 s.2.2.2.2) s) := by
    rintro ⟨x1, x2, x3, x4, μ⟩
    show FrS [34] μ _ _ (bd_X11_faints_43  x1 x2 x3 x4 μ)
    unfold bd_X11_faints_43
    repeat' (first | (with_reducible exact Fr.rfl) | (extract_lets) | (refine FrS.ite ?_ ?_) | (refine FrS.inl ?_) | (refine FrS.inr ?_) | (refine Fr.ite ?_ ?_) | (refine Fr.up ?_ (by simp)) | (refine Fr.upJ ?_ (by simp)) | (refine Fr.call ?_ (fr_X11_tellFraction _ _ _) (by simp)) | (refine Fr.call ?_ (fr_X8_start _ _ _) (by simp)))
  refine Fr_whl (S := [34]) (fun s : Int32 × Int32 × Int32 × Int32 × Mm => s.2.2.2.2) (fun r : Int32 × Int32 × Int32 × Mm => r.2.2.2) (fun _ => rfl) (fun s s' h => ?_) (fun s r h => ?_) FU s
  · have := key s; rw [h] at this; exact this
  · have := key s; rw [h] at this; exact this
set_option maxRecDepth 20000 in
set_option maxHeartbeats 4000000 in
theorem fr_X11_faints (p0 : Int32) (μ : Mm) : Fr [27, 28, 33, 34] μ (e_X11_faints p0 μ) := by
  unfold e_X11_faints
  repeat' (first | (with_reducible exact Fr.rfl) | (extract_lets) | (refine FrS.ite ?_ ?_) | (refine FrS.inl ?_) | (refine FrS.inr ?_) | (refine Fr.ite ?_ ?_) | (refine Fr.up ?_ (by simp)) | (refine Fr.upJ ?_ (by simp)) | (refine Fr.call ?_ (fr_X11_tellFraction _ _ _) (by simp)) | (refine Fr.call ?_ (fr_X8_start _ _ _) (by simp)) | (refine Fr.call ?_ (fw_X11_faints_43  _) (by simp)))
set_option maxRecDepth 20000 in
set_option maxHeartbeats 4000000 in
theorem fr_X11_keep (p0 : Int32) (μ : Mm) : Fr [31, 32] μ (e_X11_keep p0 μ) := by
  unfold e_X11_keep
  repeat' (first | (with_reducible exact Fr.rfl) | (extract_lets) | (refine FrS.ite ?_ ?_) | (refine FrS.inl ?_) | (refine FrS.inr ?_) | (refine Fr.ite ?_ ?_) | (refine Fr.up ?_ (by simp)) | (refine Fr.upJ ?_ (by simp)) | (refine Fr.call ?_ (fr_X3_shelve _ _ _) (by simp)))
set_option maxRecDepth 20000 in
set_option maxHeartbeats 4000000 in
theorem fw_X11_line_27  (s : Int32 × Int32 × Int32 × Mm) : Fr [27, 28] (s.2.2.2) ((fun r : Int32 × Mm => r.2) (whl (fun s : Int32 × Int32 × Int32 × Mm => bd_X11_line_27  s.1 s.2.1 s.2.2.1 s.2.2.2) (fun s : Int32 × Int32 × Int32 × Mm => (0, s.2.2.2)) FU s)) := by
  have key : ∀ s : Int32 × Int32 × Int32 × Mm, FrS [27, 28] (s.2.2.2) (fun s : Int32 × Int32 × Int32 × Mm => s.2.2.2) (fun r : Int32 × Mm => r.2) ((fun s : Int32 × Int32 × Int32 × Mm => bd_X11_line_27  s.1 s.2.1 s.2.2.1 s.2.2.2) s) := by
    rintro ⟨x1, x2, x3, μ⟩
    show FrS [27, 28] μ _ _ (bd_X11_line_27  x1 x2 x3 μ)
    unfold bd_X11_line_27
    repeat' (first | (with_reducible exact Fr.rfl) | (extract_lets) | (refine FrS.ite ?_ ?_) | (refine FrS.inl ?_) | (refine FrS.inr ?_) | (refine Fr.ite ?_ ?_) | (refine Fr.up ?_ (by simp)) | (refine Fr.upJ ?_ (by simp)) | (refine Fr.call ?_ (fr_X10_add _ _) (by simp)) | (refine Fr.call ?_ (fr_X10_begin _) (by simp)))
  refine Fr_whl (S := [27, 28]) (fun s : Int32 × Int32 × Int32 × Mm => s.2.2.2) (fun r : Int32 × Mm => r.2) (fun _ => rfl) (fun s s' h => ?_) (fun s r h => ?_) FU s
  · have := key s; rw [h] at this; exact this
  · have := key s; rw [h] at this; exact this
set_option maxRecDepth 20000 in
set_option maxHeartbeats 4000000 in
theorem fw_X11_line_10  (s : Int32 × Mm) : Fr [27, 28] (s.2) ((fun r : Mm => r) (whl (fun s : Int32 × Mm => bd_X11_line_10  s.1 s.2) (fun s : Int32 × Mm => s.2) FU s)) := by
  have key : ∀ s : Int32 × Mm, FrS [27, 28] (s.2) (fun s : Int32 × Mm => s.2) (fun r : Mm => r) ((fun s : Int32 × Mm => bd_X11_line_10  s.1 s.2) s) := by
    rintro ⟨x1, μ⟩
    show FrS [27, 28] μ _ _ (bd_X11_line_10  x1 μ)
    unfold bd_X11_line_10
    repeat' (first | (with_reducible exact Fr.rfl) | (extract_lets) | (refine FrS.ite ?_ ?_) | (refine FrS.inl ?_) | (refine FrS.inr ?_) | (refine Fr.ite ?_ ?_) | (refine Fr.up ?_ (by simp)) | (refine Fr.upJ ?_ (by simp)) | (refine Fr.call ?_ (fr_X10_add _ _) (by simp)) | (refine Fr.call ?_ (fr_X10_begin _) (by simp)) | (refine Fr.call ?_ (fw_X11_line_27  _) (by simp)))
  refine Fr_whl (S := [27, 28]) (fun s : Int32 × Mm => s.2) (fun r : Mm => r) (fun _ => rfl) (fun s s' h => ?_) (fun s r h => ?_) FU s
  · have := key s; rw [h] at this; exact this
  · have := key s; rw [h] at this; exact this
set_option maxRecDepth 20000 in
set_option maxHeartbeats 4000000 in
theorem fr_X11_line  (μ : Mm) : Fr [27, 28] μ (e_X11_line  μ) := by
  unfold e_X11_line
  repeat' (first | (with_reducible exact Fr.rfl) | (extract_lets) | (refine FrS.ite ?_ ?_) | (refine FrS.inl ?_) | (refine FrS.inr ?_) | (refine Fr.ite ?_ ?_) | (refine Fr.up ?_ (by simp)) | (refine Fr.upJ ?_ (by simp)) | (refine Fr.call ?_ (fr_X10_add _ _) (by simp)) | (refine Fr.call ?_ (fr_X10_begin _) (by simp)) | (refine Fr.call ?_ (fw_X11_line_27  _) (by simp)) | (refine Fr.call ?_ (fw_X11_line_10  _) (by simp)))
set_option maxRecDepth 20000 in
set_option maxHeartbeats 4000000 in
theorem fw_X11_plank_40  (s : Int32 × Int32 × Int32 × Int32 × Mm) : Fr [48] (s.2.2.2.2) ((fun r : Int32 × Int32 × Int32 × Mm => r.2.2.2) (whl (fun s : Int32 × Int32 × Int32 × Int32 × Mm => bd_X11_plank_40  s.1 s.2.1 s.2.2.1 s.2.2.2.1 s.2.2.2.2) (fun s : Int32 × Int32 × Int32 × Int32 × Mm => (0, 0, 0, s.2.2.2.2)) FU s)) := by
  have key : ∀ s : Int32 × Int32 × Int32 × Int32 × Mm, FrS [48] (s.2.2.2.2) (fun s : Int32 × Int32 × Int32 × Int32 × Mm => s.2.2.2.2) (fun r : Int32 × Int32 × Int32 × Mm => r.2.2.2) ((fun s : Int32 × Int32 × Int32 × Int32 × Mm => bd_X11_plank_40  s.1 s.2.1 s.2.2.1 s.2.2.2.1 s.2.2.2.2) s) := by
    rintro ⟨x1, x2, x3, x4, μ⟩
    show FrS [48] μ _ _ (bd_X11_plank_40  x1 x2 x3 x4 μ)
    unfold bd_X11_plank_40
    repeat' (first | (with_reducible exact Fr.rfl) | (extract_lets) | (refine FrS.ite ?_ ?_) | (refine FrS.inl ?_) | (refine FrS.inr ?_) | (refine Fr.ite ?_ ?_) | (refine Fr.up ?_ (by simp)) | (refine Fr.upJ ?_ (by simp)))
  refine Fr_whl (S := [48]) (fun s : Int32 × Int32 × Int32 × Int32 × Mm => s.2.2.2.2) (fun r : Int32 × Int32 × Int32 × Mm => r.2.2.2) (fun _ => rfl) (fun s s' h => ?_) (fun s r h => ?_) FU s
  · have := key s; rw [h] at this; exact this
  · have := key s; rw [h] at this; exact this
set_option maxRecDepth 20000 in
set_option maxHeartbeats 4000000 in
theorem fw_X11_plank_25  (s : Int32 × Int32 × Int32 × Mm) : Fr [48] (s.2.2.2) ((fun r : Int32 × Int32 × Mm => r.2.2) (whl (fun s : Int32 × Int32 × Int32 × Mm => bd_X11_plank_25  s.1 s.2.1 s.2.2.1 s.2.2.2) (fun s : Int32 × Int32 × Int32 × Mm => (0, 0, s.2.2.2)) FU s)) := by
  have key : ∀ s : Int32 × Int32 × Int32 × Mm, FrS [48] (s.2.2.2) (fun s : Int32 × Int32 × Int32 × Mm => s.2.2.2) (fun r : Int32 × Int32 × Mm => r.2.2) ((fun s : Int32 × Int32 × Int32 × Mm => bd_X11_plank_25  s.1 s.2.1 s.2.2.1 s.2.2.2) s) := by
    rintro ⟨x1, x2, x3, μ⟩
    show FrS [48] μ _ _ (bd_X11_plank_25  x1 x2 x3 μ)
    unfold bd_X11_plank_25
    repeat' (first | (with_reducible exact Fr.rfl) | (extract_lets) | (refine FrS.ite ?_ ?_) | (refine FrS.inl ?_) | (refine FrS.inr ?_) | (refine Fr.ite ?_ ?_) | (refine Fr.up ?_ (by simp)) | (refine Fr.upJ ?_ (by simp)) | (refine Fr.call ?_ (fw_X11_plank_40  _) (by simp)))
  refine Fr_whl (S := [48]) (fun s : Int32 × Int32 × Int32 × Mm => s.2.2.2) (fun r : Int32 × Int32 × Mm => r.2.2) (fun _ => rfl) (fun s s' h => ?_) (fun s r h => ?_) FU s
  · have := key s; rw [h] at this; exact this
  · have := key s; rw [h] at this; exact this
set_option maxRecDepth 20000 in
set_option maxHeartbeats 4000000 in
theorem fr_X11_plank (p0 : Int32) (p1 : Int32) (μ : Mm) : Fr [48] μ (e_X11_plank p0 p1 μ) := by
  unfold e_X11_plank
  repeat' (first | (with_reducible exact Fr.rfl) | (extract_lets) | (refine FrS.ite ?_ ?_) | (refine FrS.inl ?_) | (refine FrS.inr ?_) | (refine Fr.ite ?_ ?_) | (refine Fr.up ?_ (by simp)) | (refine Fr.upJ ?_ (by simp)) | (refine Fr.call ?_ (fw_X11_plank_40  _) (by simp)) | (refine Fr.call ?_ (fw_X11_plank_25  _) (by simp)))
set_option maxRecDepth 20000 in
set_option maxHeartbeats 4000000 in
theorem fw_X11_sheet_47  (s : Int32 × Int32 × Int32 × Int32 × Int32 × Int32 × Mm) : Fr [2] (s.2.2.2.2.2.2) ((fun r : Int32 × Int32 × Mm => r.2.2) (whl (fun s : Int32 × Int32 × Int32 × Int32 × Int32 × Int32 × Mm => bd_X11_sheet_47  s.1 s.2.1 s.2.2.1 s.2.2.2.1 s.2.2.2.2.1 s.2.2.2.2.2.1 s.2.2.2.2.2.2) (fun s : Int32 × Int32 × Int32 × Int32 × Int32 × Int32 × Mm => (0, 0, s.2.2.2.2.2.2)) FU s)) := by
  have key : ∀ s : Int32 × Int32 × Int32 × Int32 × Int32 × Int32 × Mm, FrS [2] (s.2.2.2.2.2.2) (fun s : Int32 × Int32 × Int32 × Int32 × Int32 × Int32 × Mm => s.2.2.2.2.2.2) (fun r : Int32 × Int32 × Mm => r.2.2) ((fun s : Int32 × Int32 × Int32 × Int32 × Int32 × Int32 × Mm => bd_X11_sheet_47  s.1 s.2.1 s.2.2.1 s.2.2.2.1 s.2.2.2.2.1 s.2.2.2.2.2.1 s.2.2.2.2.2.2) s) := by
    rintro ⟨x1, x3, x4, x5, x6, x7, μ⟩
    show FrS [2] μ _ _ (bd_X11_sheet_47  x1 x3 x4 x5 x6 x7 μ)
    unfold bd_X11_sheet_47
    repeat' (first | (with_reducible exact Fr.rfl) | (extract_lets) | (refine FrS.ite ?_ ?_) | (refine FrS.inl ?_) | (refine FrS.inr ?_) | (refine Fr.ite ?_ ?_) | (refine Fr.up ?_ (by simp)) | (refine Fr.upJ ?_ (by simp)))
  refine Fr_whl (S := [2]) (fun s : Int32 × Int32 × Int32 × Int32 × Int32 × Int32 × Mm => s.2.2.2.2.2.2) (fun r : Int32 × Int32 × Mm => r.2.2) (fun _ => rfl) (fun s s' h => ?_) (fun s r h => ?_) FU s
  · have := key s; rw [h] at this; exact this
  · have := key s; rw [h] at this; exact this
set_option maxRecDepth 20000 in
set_option maxHeartbeats 4000000 in
theorem fr_X11_sheet (p0 : Int32) (p1 : Int32) (p2 : Int32) (p3 : Int32) (μ : Mm) : Fr [2] μ (e_X11_sheet p0 p1 p2 p3 μ) := by
  unfold e_X11_sheet
  repeat' (first | (with_reducible exact Fr.rfl) | (extract_lets) | (refine FrS.ite ?_ ?_) | (refine FrS.inl ?_) | (refine FrS.inr ?_) | (refine Fr.ite ?_ ?_) | (refine Fr.up ?_ (by simp)) | (refine Fr.upJ ?_ (by simp)) | (refine Fr.call ?_ (fw_X11_sheet_47  _) (by simp)))
set_option maxRecDepth 20000 in
set_option maxHeartbeats 4000000 in
theorem fr_X11_undo  (μ : Mm) : Fr [1, 29, 3, 4, 5] μ (e_X11_undo  μ) := by
  unfold e_X11_undo
  repeat' (first | (with_reducible exact Fr.rfl) | (extract_lets) | (refine FrS.ite ?_ ?_) | (refine FrS.inl ?_) | (refine FrS.inr ?_) | (refine Fr.ite ?_ ?_) | (refine Fr.up ?_ (by simp)) | (refine Fr.upJ ?_ (by simp)) | (refine Fr.call ?_ (fr_X3_back _ _) (by simp)))
set_option maxRecDepth 20000 in
set_option maxHeartbeats 4000000 in
theorem fw_X12_crossings_37  (s : Int32 × Int32 × Int32 × Int32 × Mm) : Fr [49, 50] (s.2.2.2.2) ((fun r : Int32 × Int32 × Int32 × Mm => r.2.2.2) (whl (fun s : Int32 × Int32 × Int32 × Int32 × Mm => bd_X12_crossings_37  s.1 s.2.1 s.2.2.1 s.2.2.2.1 s.2.2.2.2) (fun s : Int32 × Int32 × Int32 × Int32 × Mm => (0, 0, 0, s.2.2.2.2)) FU s)) := by
  have key : ∀ s : Int32 × Int32 × Int32 × Int32 × Mm, FrS [49, 50] (s.2.2.2.2) (fun s : Int32 × Int32 × Int32 × Int32 × Mm => s.2.2.2.2) (fun r : Int32 × Int32 × Int32 × Mm => r.2.2.2) ((fun s : Int32 × Int32 × Int32 × Int32 × Mm => bd_X12_crossings_37  s.1 s.2.1 s.2.2.1 s.2.2.2.1 s.2.2.2.2) s) := by
    rintro ⟨x1, x2, x3, x4, μ⟩
    show FrS [49, 50] μ _ _ (bd_X12_crossings_37  x1 x2 x3 x4 μ)
    unfold bd_X12_crossings_37
    repeat' (first | (with_reducible exact Fr.rfl) | (extract_lets) | (refine FrS.ite ?_ ?_) | (refine FrS.inl ?_) | (refine FrS.inr ?_) | (refine Fr.ite ?_ ?_) | (refine Fr.up ?_ (by simp)) | (refine Fr.upJ ?_ (by simp)) | (refine Fr.call ?_ (fr_X12_enters _ _) (by simp)))
  refine Fr_whl (S := [49, 50]) (fun s : Int32 × Int32 × Int32 × Int32 × Mm => s.2.2.2.2) (fun r : Int32 × Int32 × Int32 × Mm => r.2.2.2) (fun _ => rfl) (fun s s' h => ?_) (fun s r h => ?_) FU s
  · have := key s; rw [h] at this; exact this
  · have := key s; rw [h] at this; exact this
set_option maxRecDepth 20000 in
set_option maxHeartbeats 4000000 in
theorem fw_X12_crossings_28  (s : Int32 × Int32 × Int32 × Mm) : Fr [49, 50] (s.2.2.2) ((fun r : Int32 × Mm => r.2) (whl (fun s : Int32 × Int32 × Int32 × Mm => bd_X12_crossings_28  s.1 s.2.1 s.2.2.1 s.2.2.2) (fun s : Int32 × Int32 × Int32 × Mm => (0, s.2.2.2)) FU s)) := by
  have key : ∀ s : Int32 × Int32 × Int32 × Mm, FrS [49, 50] (s.2.2.2) (fun s : Int32 × Int32 × Int32 × Mm => s.2.2.2) (fun r : Int32 × Mm => r.2) ((fun s : Int32 × Int32 × Int32 × Mm => bd_X12_crossings_28  s.1 s.2.1 s.2.2.1 s.2.2.2) s) := by
    rintro ⟨x1, x2, x3, μ⟩
    show FrS [49, 50] μ _ _ (bd_X12_crossings_28  x1 x2 x3 μ)
    unfold bd_X12_crossings_28
    repeat' (first | (with_reducible exact Fr.rfl) | (extract_lets) | (refine FrS.ite ?_ ?_) | (refine FrS.inl ?_) | (refine FrS.inr ?_) | (refine Fr.ite ?_ ?_) | (refine Fr.up ?_ (by simp)) | (refine Fr.upJ ?_ (by simp)) | (refine Fr.call ?_ (fr_X12_enters _ _) (by simp)) | (refine Fr.call ?_ (fw_X12_crossings_37  _) (by simp)))
  refine Fr_whl (S := [49, 50]) (fun s : Int32 × Int32 × Int32 × Mm => s.2.2.2) (fun r : Int32 × Mm => r.2) (fun _ => rfl) (fun s s' h => ?_) (fun s r h => ?_) FU s
  · have := key s; rw [h] at this; exact this
  · have := key s; rw [h] at this; exact this
set_option maxRecDepth 20000 in
set_option maxHeartbeats 4000000 in
theorem fr_X12_crossings (p0 : Int32) (μ : Mm) : Fr [49, 50] μ (e_X12_crossings p0 μ) := by
  unfold e_X12_crossings
  repeat' (first | (with_reducible exact Fr.rfl) | (extract_lets) | (refine FrS.ite ?_ ?_) | (refine FrS.inl ?_) | (refine FrS.inr ?_) | (refine Fr.ite ?_ ?_) | (refine Fr.up ?_ (by simp)) | (refine Fr.upJ ?_ (by simp)) | (refine Fr.call ?_ (fr_X12_enters _ _) (by simp)) | (refine Fr.call ?_ (fw_X12_crossings_37  _) (by simp)) | (refine Fr.call ?_ (fw_X12_crossings_28  _) (by simp)))
set_option maxRecDepth 20000 in
set_option maxHeartbeats 4000000 in
theorem fw_X12_laysWon_2  (s : Int32 × Int32 × Mm) : Fr [66] (s.2.2) ((fun r : Int32 × Mm => r.2) (whl (fun s : Int32 × Int32 × Mm => bd_X12_laysWon_2  s.1 s.2.1 s.2.2) (fun s : Int32 × Int32 × Mm => (0, s.2.2)) FU s)) := by
  have key : ∀ s : Int32 × Int32 × Mm, FrS [66] (s.2.2) (fun s : Int32 × Int32 × Mm => s.2.2) (fun r : Int32 × Mm => r.2) ((fun s : Int32 × Int32 × Mm => bd_X12_laysWon_2  s.1 s.2.1 s.2.2) s) := by
    rintro ⟨x1, x2, μ⟩
    show FrS [66] μ _ _ (bd_X12_laysWon_2  x1 x2 μ)
    unfold bd_X12_laysWon_2
    repeat' (first | (with_reducible exact Fr.rfl) | (extract_lets) | (refine FrS.ite ?_ ?_) | (refine FrS.inl ?_) | (refine FrS.inr ?_) | (refine Fr.ite ?_ ?_) | (refine Fr.up ?_ (by simp)) | (refine Fr.upJ ?_ (by simp)))
  refine Fr_whl (S := [66]) (fun s : Int32 × Int32 × Mm => s.2.2) (fun r : Int32 × Mm => r.2) (fun _ => rfl) (fun s s' h => ?_) (fun s r h => ?_) FU s
  · have := key s; rw [h] at this; exact this
  · have := key s; rw [h] at this; exact this
set_option maxRecDepth 20000 in
set_option maxHeartbeats 4000000 in
theorem fw_X12_laysWon_51  (s : Int32 × Int32 × Int32 × Mm) : Fr [66] (s.2.2.2) ((fun r : Int32 × Int32 × Mm => r.2.2) (whl (fun s : Int32 × Int32 × Int32 × Mm => bd_X12_laysWon_51  s.1 s.2.1 s.2.2.1 s.2.2.2) (fun s : Int32 × Int32 × Int32 × Mm => (0, 0, s.2.2.2)) FU s)) := by
  have key : ∀ s : Int32 × Int32 × Int32 × Mm, FrS [66] (s.2.2.2) (fun s : Int32 × Int32 × Int32 × Mm => s.2.2.2) (fun r : Int32 × Int32 × Mm => r.2.2) ((fun s : Int32 × Int32 × Int32 × Mm => bd_X12_laysWon_51  s.1 s.2.1 s.2.2.1 s.2.2.2) s) := by
    rintro ⟨x1, x2, x3, μ⟩
    show FrS [66] μ _ _ (bd_X12_laysWon_51  x1 x2 x3 μ)
    unfold bd_X12_laysWon_51
    repeat' (first | (with_reducible exact Fr.rfl) | (extract_lets) | (refine FrS.ite ?_ ?_) | (refine FrS.inl ?_) | (refine FrS.inr ?_) | (refine Fr.ite ?_ ?_) | (refine Fr.up ?_ (by simp)) | (refine Fr.upJ ?_ (by simp)) | (refine Fr.call ?_ (fw_X12_laysWon_2  _) (by simp)))
  refine Fr_whl (S := [66]) (fun s : Int32 × Int32 × Int32 × Mm => s.2.2.2) (fun r : Int32 × Int32 × Mm => r.2.2) (fun _ => rfl) (fun s s' h => ?_) (fun s r h => ?_) FU s
  · have := key s; rw [h] at this; exact this
  · have := key s; rw [h] at this; exact this
set_option maxRecDepth 20000 in
set_option maxHeartbeats 4000000 in
theorem fw_X12_laysWon_45  (s : Int32 × Int32 × Mm) : Fr [66] (s.2.2) ((fun r : Mm => r) (whl (fun s : Int32 × Int32 × Mm => bd_X12_laysWon_45  s.1 s.2.1 s.2.2) (fun s : Int32 × Int32 × Mm => s.2.2) FU s)) := by
  have key : ∀ s : Int32 × Int32 × Mm, FrS [66] (s.2.2) (fun s : Int32 × Int32 × Mm => s.2.2) (fun r : Mm => r) ((fun s : Int32 × Int32 × Mm => bd_X12_laysWon_45  s.1 s.2.1 s.2.2) s) := by
    rintro ⟨x1, x2, μ⟩
    show FrS [66] μ _ _ (bd_X12_laysWon_45  x1 x2 μ)
    unfold bd_X12_laysWon_45
    repeat' (first | (with_reducible exact Fr.rfl) | (extract_lets) | (refine FrS.ite ?_ ?_) | (refine FrS.inl ?_) | (refine FrS.inr ?_) | (refine Fr.ite ?_ ?_) | (refine Fr.up ?_ (by simp)) | (refine Fr.upJ ?_ (by simp)) | (refine Fr.call ?_ (fw_X12_laysWon_2  _) (by simp)) | (refine Fr.call ?_ (fw_X12_laysWon_51  _) (by simp)))
  refine Fr_whl (S := [66]) (fun s : Int32 × Int32 × Mm => s.2.2) (fun r : Mm => r) (fun _ => rfl) (fun s s' h => ?_) (fun s r h => ?_) FU s
  · have := key s; rw [h] at this; exact this
  · have := key s; rw [h] at this; exact this
set_option maxRecDepth 20000 in
set_option maxHeartbeats 4000000 in
theorem fr_X12_laysWon (p0 : Int32) (μ : Mm) : Fr [66] μ (e_X12_laysWon p0 μ) := by
  unfold e_X12_laysWon
  repeat' (first | (with_reducible exact Fr.rfl) | (extract_lets) | (refine FrS.ite ?_ ?_) | (refine FrS.inl ?_) | (refine FrS.inr ?_) | (refine Fr.ite ?_ ?_) | (refine Fr.up ?_ (by simp)) | (refine Fr.upJ ?_ (by simp)) | (refine Fr.call ?_ (fw_X12_laysWon_2  _) (by simp)) | (refine Fr.call ?_ (fw_X12_laysWon_51  _) (by simp)) | (refine Fr.call ?_ (fw_X12_laysWon_45  _) (by simp)))
set_option maxRecDepth 20000 in
set_option maxHeartbeats 4000000 in
theorem fr_X12_noon (p0 : Int32) (μ : Mm) : Fr [49, 52, 61] μ (e_X12_noon p0 μ) := by
  unfold e_X12_noon
  repeat' (first | (with_reducible exact Fr.rfl) | (extract_lets) | (refine FrS.ite ?_ ?_) | (refine FrS.inl ?_) | (refine FrS.inr ?_) | (refine Fr.ite ?_ ?_) | (refine Fr.up ?_ (by simp)) | (refine Fr.upJ ?_ (by simp)) | (refine Fr.call ?_ (fr_X12_becomes _ _ _ _) (by simp)) | (refine Fr.call ?_ (fr_X12_counted _ _) (by simp)) | (refine Fr.call ?_ (fr_X12_putsBy _) (by simp)))
set_option maxRecDepth 20000 in
set_option maxHeartbeats 4000000 in
theorem fw_X12_number_13  (s : Int32 × Int32 × Int32 × Mm) : Fr [49] (s.2.2.2) ((fun r : Int32 × Mm => r.2) (whl (fun s : Int32 × Int32 × Int32 × Mm => bd_X12_number_13  s.1 s.2.1 s.2.2.1 s.2.2.2) (fun s : Int32 × Int32 × Int32 × Mm => (0, s.2.2.2)) FU s)) := by
  have key : ∀ s : Int32 × Int32 × Int32 × Mm, FrS [49] (s.2.2.2) (fun s : Int32 × Int32 × Int32 × Mm => s.2.2.2) (fun r : Int32 × Mm => r.2) ((fun s : Int32 × Int32 × Int32 × Mm => bd_X12_number_13  s.1 s.2.1 s.2.2.1 s.2.2.2) s) := by
    rintro ⟨x1, x2, x3, μ⟩
    show FrS [49] μ _ _ (bd_X12_number_13  x1 x2 x3 μ)
    unfold bd_X12_number_13
    repeat' (first | (with_reducible exact Fr.rfl) | (extract_lets) | (refine FrS.ite ?_ ?_) | (refine FrS.inl ?_) | (refine FrS.inr ?_) | (refine Fr.ite ?_ ?_) | (refine Fr.up ?_ (by simp)) | (refine Fr.upJ ?_ (by simp)))
  refine Fr_whl (S := [49]) (fun s : Int32 × Int32 × Int32 × Mm => s.2.2.2) (fun r : Int32 × Mm => r.2) (fun _ => rfl) (fun s s' h => ?_) (fun s r h => ?_) FU s
  · have := key s; rw [h] at this; exact this
  · have := key s; rw [h] at this; exact this
set_option maxRecDepth 20000 in
set_option maxHeartbeats 4000000 in
theorem fr_X12_number (p0 : Int32) (μ : Mm) : Fr [49] μ (e_X12_number p0 μ) := by
  unfold e_X12_number
  repeat' (first | (with_reducible exact Fr.rfl) | (extract_lets) | (refine FrS.ite ?_ ?_) | (refine FrS.inl ?_) | (refine FrS.inr ?_) | (refine Fr.ite ?_ ?_) | (refine Fr.up ?_ (by simp)) | (refine Fr.upJ ?_ (by simp)) | (refine Fr.call ?_ (fw_X12_number_13  _) (by simp)))
set_option maxRecDepth 20000 in
set_option maxHeartbeats 4000000 in
theorem fw_X12_ruled_4  (s : Int32 × Int32 × Mm) : Fr [59] (s.2.2) ((fun r : Mm => r) (whl (fun s : Int32 × Int32 × Mm => bd_X12_ruled_4  s.1 s.2.1 s.2.2) (fun s : Int32 × Int32 × Mm => s.2.2) FU s)) := by
  have key : ∀ s : Int32 × Int32 × Mm, FrS [59] (s.2.2) (fun s : Int32 × Int32 × Mm => s.2.2) (fun r : Mm => r) ((fun s : Int32 × Int32 × Mm => bd_X12_ruled_4  s.1 s.2.1 s.2.2) s) := by
    rintro ⟨x1, x2, μ⟩
    show FrS [59] μ _ _ (bd_X12_ruled_4  x1 x2 μ)
    unfold bd_X12_ruled_4
    repeat' (first | (with_reducible exact Fr.rfl) | (extract_lets) | (refine FrS.ite ?_ ?_) | (refine FrS.inl ?_) | (refine FrS.inr ?_) | (refine Fr.ite ?_ ?_) | (refine Fr.up ?_ (by simp)) | (refine Fr.upJ ?_ (by simp)))
  refine Fr_whl (S := [59]) (fun s : Int32 × Int32 × Mm => s.2.2) (fun r : Mm => r) (fun _ => rfl) (fun s s' h => ?_) (fun s r h => ?_) FU s
  · have := key s; rw [h] at this; exact this
  · have := key s; rw [h] at this; exact this
set_option maxRecDepth 20000 in
set_option maxHeartbeats 4000000 in
theorem fr_X12_ruled  (μ : Mm) : Fr [59] μ (e_X12_ruled  μ) := by
  unfold e_X12_ruled
  repeat' (first | (with_reducible exact Fr.rfl) | (extract_lets) | (refine FrS.ite ?_ ?_) | (refine FrS.inl ?_) | (refine FrS.inr ?_) | (refine Fr.ite ?_ ?_) | (refine Fr.up ?_ (by simp)) | (refine Fr.upJ ?_ (by simp)) | (refine Fr.call ?_ (fw_X12_ruled_4  _) (by simp)))
set_option maxRecDepth 20000 in
set_option maxHeartbeats 4000000 in
theorem fr_X1_wayOf (b : Nat) (p0 : Int32) (p1 : Nat) (p2 : Int32) (μ : Mm) : Fr [(b + 6), (p1 + 2)] μ (e_X1_wayOf b p0 p1 p2 μ) := by
  unfold e_X1_wayOf
  repeat' (first | (with_reducible exact Fr.rfl) | (extract_lets) | (refine FrS.ite ?_ ?_) | (refine FrS.inl ?_) | (refine FrS.inr ?_) | (refine Fr.ite ?_ ?_) | (refine Fr.up ?_ (by simp)) | (refine Fr.upJ ?_ (by simp)) | (refine Fr.call ?_ (fr_X5_value _ _ _) (by simp)))
set_option maxRecDepth 20000 in
set_option maxHeartbeats 4000000 in
theorem fr_X5_close (b : Nat) (μ : Mm) : Fr [(b + 1), (b + 3), b] μ (e_X5_close b μ) := by
  unfold e_X5_close
  repeat' (first | (with_reducible exact Fr.rfl) | (extract_lets) | (refine FrS.ite ?_ ?_) | (refine FrS.inl ?_) | (refine FrS.inr ?_) | (refine Fr.ite ?_ ?_) | (refine Fr.up ?_ (by simp)) | (refine Fr.upJ ?_ (by simp)) | (refine Fr.call ?_ (fr_X4_pop _ _) (by simp)) | (refine Fr.call ?_ (fr_X5_emitWaiting _ _ _) (by simp)))
set_option maxRecDepth 20000 in
set_option maxHeartbeats 4000000 in
theorem fw_X7_setOut_2 (p0 : Nat) (s : Int32 × Int32 × Mm) : Fr [36, 37] (s.2.2) ((fun r : Mm => r) (whl (fun s : Int32 × Int32 × Mm => bd_X7_setOut_2 p0 s.1 s.2.1 s.2.2) (fun s : Int32 × Int32 × Mm => s.2.2) FU s)) := by
  have key : ∀ s : Int32 × Int32 × Mm, FrS [36, 37] (s.2.2) (fun s : Int32 × Int32 × Mm => s.2.2) (fun r : Mm => r) ((fun s : Int32 × Int32 × Mm => bd_X7_setOut_2 p0 s.1 s.2.1 s.2.2) s) := by
    rintro ⟨x2, x3, μ⟩
    show FrS [36, 37] μ _ _ (bd_X7_setOut_2 p0 x2 x3 μ)
    unfold bd_X7_setOut_2
    repeat' (first | (with_reducible exact Fr.rfl) | (extract_lets) | (refine FrS.ite ?_ ?_) | (refine FrS.inl ?_) | (refine FrS.inr ?_) | (refine Fr.ite ?_ ?_) | (refine Fr.up ?_ (by simp)) | (refine Fr.upJ ?_ (by simp)))
  refine Fr_whl (S := [36, 37]) (fun s : Int32 × Int32 × Mm => s.2.2) (fun r : Mm => r) (fun _ => rfl) (fun s s' h => ?_) (fun s r h => ?_) FU s
  · have := key s; rw [h] at this; exact this
  · have := key s; rw [h] at this; exact this
set_option maxRecDepth 20000 in
set_option maxHeartbeats 4000000 in
theorem fr_X7_setOut (p0 : Nat) (p1 : Int32) (μ : Mm) : Fr [36, 37] μ (e_X7_setOut p0 p1 μ) := by
  unfold e_X7_setOut
  repeat' (first | (with_reducible exact Fr.rfl) | (extract_lets) | (refine FrS.ite ?_ ?_) | (refine FrS.inl ?_) | (refine FrS.inr ?_) | (refine Fr.ite ?_ ?_) | (refine Fr.up ?_ (by simp)) | (refine Fr.upJ ?_ (by simp)) | (refine Fr.call ?_ (fw_X7_setOut_2 _ _) (by simp)))
set_option maxRecDepth 20000 in
set_option maxHeartbeats 4000000 in
theorem fw_X8_search_12  (s : Int32 × Int32 × Mm) : Fr [33] (s.2.2) ((fun r : Mm => r) (whl (fun s : Int32 × Int32 × Mm => bd_X8_search_12  s.1 s.2.1 s.2.2) (fun s : Int32 × Int32 × Mm => s.2.2) FU s)) := by
  have key : ∀ s : Int32 × Int32 × Mm, FrS [33] (s.2.2) (fun s : Int32 × Int32 × Mm => s.2.2) (fun r : Mm => r) ((fun s : Int32 × Int32 × Mm => bd_X8_search_12  s.1 s.2.1 s.2.2) s) := by
    rintro ⟨x1, x2, μ⟩
    show FrS [33] μ _ _ (bd_X8_search_12  x1 x2 μ)
    unfold bd_X8_search_12
    repeat' (first | (with_reducible exact Fr.rfl) | (extract_lets) | (refine FrS.ite ?_ ?_) | (refine FrS.inl ?_) | (refine FrS.inr ?_) | (refine Fr.ite ?_ ?_) | (refine Fr.up ?_ (by simp)) | (refine Fr.upJ ?_ (by simp)))
  refine Fr_whl (S := [33]) (fun s : Int32 × Int32 × Mm => s.2.2) (fun r : Mm => r) (fun _ => rfl) (fun s s' h => ?_) (fun s r h => ?_) FU s
  · have := key s; rw [h] at this; exact this
  · have := key s; rw [h] at this; exact this
set_option maxRecDepth 20000 in
set_option maxHeartbeats 4000000 in
theorem fr_X8_search (p0 : Int32) (μ : Mm) : Fr [33] μ (e_X8_search p0 μ) := by
  unfold e_X8_search
  repeat' (first | (with_reducible exact Fr.rfl) | (extract_lets) | (refine FrS.ite ?_ ?_) | (refine FrS.inl ?_) | (refine FrS.inr ?_) | (refine Fr.ite ?_ ?_) | (refine Fr.up ?_ (by simp)) | (refine Fr.upJ ?_ (by simp)) | (refine Fr.call ?_ (fw_X8_search_12  _) (by simp)))
set_option maxRecDepth 20000 in
set_option maxHeartbeats 4000000 in
theorem fw_X11_backs_26  (s : Int32 × Int32 × Int32 × Mm) : Fr [27, 28] (s.2.2.2) ((fun r : Int32 × Int32 × Mm => r.2.2) (whl (fun s : Int32 × Int32 × Int32 × Mm => bd_X11_backs_26  s.1 s.2.1 s.2.2.1 s.2.2.2) (fun s : Int32 × Int32 × Int32 × Mm => (0, 0, s.2.2.2)) FU s)) := by
  have key : ∀ s : Int32 × Int32 × Int32 × Mm, FrS [27, 28] (s.2.2.2) (fun s : Int32 × Int32 × Int32 × Mm => s.2.2.2) (fun r : Int32 × Int32 × Mm => r.2.2) ((fun s : Int32 × Int32 × Int32 × Mm => bd_X11_backs_26  s.1 s.2.1 s.2.2.1 s.2.2.2) s) := by
    rintro ⟨x1, x2, x3, μ⟩
    show FrS [27, 28] μ _ _ (bd_X11_backs_26  x1 x2 x3 μ)
    unfold bd_X11_backs_26
    repeat' (first | (with_reducible exact Fr.rfl) | (extract_lets) | (refine FrS.ite ?_ ?_) | (refine FrS.inl ?_) | (refine FrS.inr ?_) | (refine Fr.ite ?_ ?_) | (refine Fr.up ?_ (by simp)) | (refine Fr.upJ ?_ (by simp)) | (refine Fr.call ?_ (fr_X10_add _ _) (by simp)) | (refine Fr.call ?_ (fr_X10_begin _) (by simp)))
  refine Fr_whl (S := [27, 28]) (fun s : Int32 × Int32 × Int32 × Mm => s.2.2.2) (fun r : Int32 × Int32 × Mm => r.2.2) (fun _ => rfl) (fun s s' h => ?_) (fun s r h => ?_) FU s
  · have := key s; rw [h] at this; exact this
  · have := key s; rw [h] at this; exact this
set_option maxRecDepth 20000 in
set_option maxHeartbeats 4000000 in
theorem fw_X11_backs_11  (s : Int32 × Int32 × Mm) : Fr [27, 28] (s.2.2) ((fun r : Int32 × Mm => r.2) (whl (fun s : Int32 × Int32 × Mm => bd_X11_backs_11  s.1 s.2.1 s.2.2) (fun s : Int32 × Int32 × Mm => (0, s.2.2)) FU s)) := by
  have key : ∀ s : Int32 × Int32 × Mm, FrS [27, 28] (s.2.2) (fun s : Int32 × Int32 × Mm => s.2.2) (fun r : Int32 × Mm => r.2) ((fun s : Int32 × Int32 × Mm => bd_X11_backs_11  s.1 s.2.1 s.2.2) s) := by
    rintro ⟨x1, x2, μ⟩
    show FrS [27, 28] μ _ _ (bd_X11_backs_11  x1 x2 μ)
    unfold bd_X11_backs_11
    repeat' (first | (with_reducible exact Fr.rfl) | (extract_lets) | (refine FrS.ite ?_ ?_) | (refine FrS.inl ?_) | (refine FrS.inr ?_) | (refine Fr.ite ?_ ?_) | (refine Fr.up ?_ (by simp)) | (refine Fr.upJ ?_ (by simp)) | (refine Fr.call ?_ (fr_X10_add _ _) (by simp)) | (refine Fr.call ?_ (fr_X10_begin _) (by simp)) | (refine Fr.call ?_ (fw_X11_backs_26  _) (by simp)))
  refine Fr_whl (S := [27, 28]) (fun s : Int32 × Int32 × Mm => s.2.2) (fun r : Int32 × Mm => r.2) (fun _ => rfl) (fun s s' h => ?_) (fun s r h => ?_) FU s
  · have := key s; rw [h] at this; exact this
  · have := key s; rw [h] at this; exact this
set_option maxRecDepth 20000 in
set_option maxHeartbeats 4000000 in
theorem fr_X11_backs  (μ : Mm) : Fr [27, 28] μ (e_X11_backs  μ) := by
  unfold e_X11_backs
  repeat' (first | (with_reducible exact Fr.rfl) | (extract_lets) | (refine FrS.ite ?_ ?_) | (refine FrS.inl ?_) | (refine FrS.inr ?_) | (refine Fr.ite ?_ ?_) | (refine Fr.up ?_ (by simp)) | (refine Fr.upJ ?_ (by simp)) | (refine Fr.call ?_ (fr_X10_add _ _) (by simp)) | (refine Fr.call ?_ (fr_X10_begin _) (by simp)) | (refine Fr.call ?_ (fw_X11_backs_26  _) (by simp)) | (refine Fr.call ?_ (fw_X11_backs_11  _) (by simp)))
set_option maxRecDepth 20000 in
set_option maxHeartbeats 4000000 in
theorem fr_X11_heads  (μ : Mm) : Fr [27, 28] μ (e_X11_heads  μ) := by
  unfold e_X11_heads
  repeat' (first | (with_reducible exact Fr.rfl) | (extract_lets) | (refine FrS.ite ?_ ?_) | (refine FrS.inl ?_) | (refine FrS.inr ?_) | (refine Fr.ite ?_ ?_) | (refine Fr.up ?_ (by simp)) | (refine Fr.upJ ?_ (by simp)) | (refine Fr.call ?_ (fr_X10_add _ _) (by simp)) | (refine Fr.call ?_ (fr_X10_begin _) (by simp)))
set_option maxRecDepth 20000 in
set_option maxHeartbeats 4000000 in
theorem fr_X11_leads (p0 : Int32) (p1 : Int32) (μ : Mm) : Fr [29, 30, 4] μ (e_X11_leads p0 p1 μ) := by
  unfold e_X11_leads
  repeat' (first | (with_reducible exact Fr.rfl) | (extract_lets) | (refine FrS.ite ?_ ?_) | (refine FrS.inl ?_) | (refine FrS.inr ?_) | (refine Fr.ite ?_ ?_) | (refine Fr.up ?_ (by simp)) | (refine Fr.upJ ?_ (by simp)) | (refine Fr.call ?_ (fr_X11_committed _ _) (by simp)) | (refine Fr.call ?_ (fr_X1_lead _ _ _ _) (by simp)) | (refine Fr.call ?_ (fr_X3_note _ _) (by simp)))
set_option maxRecDepth 20000 in
set_option maxHeartbeats 4000000 in
theorem fr_X11_noon (p0 : Int32) (μ : Mm) : Fr [1, 29, 30] μ (e_X11_noon p0 μ) := by
  unfold e_X11_noon
  repeat' (first | (with_reducible exact Fr.rfl) | (extract_lets) | (refine FrS.ite ?_ ?_) | (refine FrS.inl ?_) | (refine FrS.inr ?_) | (refine Fr.ite ?_ ?_) | (refine Fr.up ?_ (by simp)) | (refine Fr.upJ ?_ (by simp)) | (refine Fr.call ?_ (fr_X11_committed _ _) (by simp)) | (refine Fr.call ?_ (fr_X1_setNoon _ _ _) (by simp)) | (refine Fr.call ?_ (fr_X3_note _ _) (by simp)))
set_option maxRecDepth 20000 in
set_option maxHeartbeats 4000000 in
theorem fw_X11_people_41  (s : Int32 × Int32 × Int32 × Mm) : Fr [1, 2, 3, 4, 5] (s.2.2.2) ((fun r : Int32 × Int32 × Mm => r.2.2) (whl (fun s : Int32 × Int32 × Int32 × Mm => bd_X11_people_41  s.1 s.2.1 s.2.2.1 s.2.2.2) (fun s : Int32 × Int32 × Int32 × Mm => (0, 0, s.2.2.2)) FU s)) := by
  have key : ∀ s : Int32 × Int32 × Int32 × Mm, FrS [1, 2, 3, 4, 5] (s.2.2.2) (fun s : Int32 × Int32 × Int32 × Mm => s.2.2.2) (fun r : Int32 × Int32 × Mm => r.2.2) ((fun s : Int32 × Int32 × Int32 × Mm => bd_X11_people_41  s.1 s.2.1 s.2.2.1 s.2.2.2) s) := by
    rintro ⟨x1, x2, x3, μ⟩
    show FrS [1, 2, 3, 4, 5] μ _ _ (bd_X11_people_41  x1 x2 x3 μ)
    unfold bd_X11_people_41
    repeat' (first | (with_reducible exact Fr.rfl) | (extract_lets) | (refine FrS.ite ?_ ?_) | (refine FrS.inl ?_) | (refine FrS.inr ?_) | (refine Fr.ite ?_ ?_) | (refine Fr.up ?_ (by simp)) | (refine Fr.upJ ?_ (by simp)) | (refine Fr.call ?_ (fr_X1_join _ _ _ _) (by simp)) | (refine Fr.call ?_ (fr_X3_loseAll _) (by simp)) | (refine Fr.call ?_ (fr_X9_clear _) (by simp)))
  refine Fr_whl (S := [1, 2, 3, 4, 5]) (fun s : Int32 × Int32 × Int32 × Mm => s.2.2.2) (fun r : Int32 × Int32 × Mm => r.2.2) (fun _ => rfl) (fun s s' h => ?_) (fun s r h => ?_) FU s
  · have := key s; rw [h] at this; exact this
  · have := key s; rw [h] at this; exact this
set_option maxRecDepth 20000 in
set_option maxHeartbeats 4000000 in
theorem fr_X11_people  (μ : Mm) : Fr [1, 2, 25, 29, 3, 32, 4, 5] μ (e_X11_people  μ) := by
  unfold e_X11_people
  repeat' (first | (with_reducible exact Fr.rfl) | (extract_lets) | (refine FrS.ite ?_ ?_) | (refine FrS.inl ?_) | (refine FrS.inr ?_) | (refine Fr.ite ?_ ?_) | (refine Fr.up ?_ (by simp)) | (refine Fr.upJ ?_ (by simp)) | (refine Fr.call ?_ (fr_X1_join _ _ _ _) (by simp)) | (refine Fr.call ?_ (fr_X3_loseAll _) (by simp)) | (refine Fr.call ?_ (fr_X9_clear _) (by simp)) | (refine Fr.call ?_ (fw_X11_people_41  _) (by simp)))
set_option maxRecDepth 20000 in
set_option maxHeartbeats 4000000 in
theorem fr_X11_sacks (p0 : Int32) (p1 : Int32) (μ : Mm) : Fr [29, 30, 5] μ (e_X11_sacks p0 p1 μ) := by
  unfold e_X11_sacks
  repeat' (first | (with_reducible exact Fr.rfl) | (extract_lets) | (refine FrS.ite ?_ ?_) | (refine FrS.inl ?_) | (refine FrS.inr ?_) | (refine Fr.ite ?_ ?_) | (refine Fr.up ?_ (by simp)) | (refine Fr.upJ ?_ (by simp)) | (refine Fr.call ?_ (fr_X11_committed _ _) (by simp)) | (refine Fr.call ?_ (fr_X1_burden _ _ _ _) (by simp)) | (refine Fr.call ?_ (fr_X3_note _ _) (by simp)))
set_option maxRecDepth 20000 in
set_option maxHeartbeats 4000000 in
theorem fr_X11_steps (p0 : Int32) (μ : Mm) : Fr [1, 29, 30] μ (e_X11_steps p0 μ) := by
  unfold e_X11_steps
  repeat' (first | (with_reducible exact Fr.rfl) | (extract_lets) | (refine FrS.ite ?_ ?_) | (refine FrS.inl ?_) | (refine FrS.inr ?_) | (refine Fr.ite ?_ ?_) | (refine Fr.up ?_ (by simp)) | (refine Fr.upJ ?_ (by simp)) | (refine Fr.call ?_ (fr_X11_committed _ _) (by simp)) | (refine Fr.call ?_ (fr_X1_stepOffOrOn _ _ _) (by simp)) | (refine Fr.call ?_ (fr_X3_note _ _) (by simp)))
set_option maxRecDepth 20000 in
set_option maxHeartbeats 4000000 in
theorem fr_X11_tellFewest (p0 : Int32) (μ : Mm) : Fr [27, 28, 33] μ (e_X11_tellFewest p0 μ) := by
  unfold e_X11_tellFewest
  repeat' (first | (with_reducible exact Fr.rfl) | (extract_lets) | (refine FrS.ite ?_ ?_) | (refine FrS.inl ?_) | (refine FrS.inr ?_) | (refine Fr.ite ?_ ?_) | (refine Fr.up ?_ (by simp)) | (refine Fr.upJ ?_ (by simp)) | (refine Fr.call ?_ (fr_X10_add _ _) (by simp)) | (refine Fr.call ?_ (fr_X10_begin _) (by simp)) | (refine Fr.call ?_ (fr_X8_search _ _) (by simp)))
set_option maxRecDepth 20000 in
set_option maxHeartbeats 4000000 in
theorem fr_X11_tips  (μ : Mm) : Fr [27, 28] μ (e_X11_tips  μ) := by
  unfold e_X11_tips
  repeat' (first | (with_reducible exact Fr.rfl) | (extract_lets) | (refine FrS.ite ?_ ?_) | (refine FrS.inl ?_) | (refine FrS.inr ?_) | (refine Fr.ite ?_ ?_) | (refine Fr.up ?_ (by simp)) | (refine Fr.upJ ?_ (by simp)) | (refine Fr.call ?_ (fr_X10_add _ _) (by simp)) | (refine Fr.call ?_ (fr_X10_begin _) (by simp)))
set_option maxRecDepth 20000 in
set_option maxHeartbeats 4000000 in
theorem fr_X11_turnsTo (p0 : Int32) (p1 : Int32) (μ : Mm) : Fr [29, 3, 30] μ (e_X11_turnsTo p0 p1 μ) := by
  unfold e_X11_turnsTo
  repeat' (first | (with_reducible exact Fr.rfl) | (extract_lets) | (refine FrS.ite ?_ ?_) | (refine FrS.inl ?_) | (refine FrS.inr ?_) | (refine Fr.ite ?_ ?_) | (refine Fr.up ?_ (by simp)) | (refine Fr.upJ ?_ (by simp)) | (refine Fr.call ?_ (fr_X11_committed _ _) (by simp)) | (refine Fr.call ?_ (fr_X1_turn _ _ _ _) (by simp)) | (refine Fr.call ?_ (fr_X3_note _ _) (by simp)))
set_option maxRecDepth 20000 in
set_option maxHeartbeats 4000000 in
theorem fw_X11_walks_77  (s : Int32 × Int32 × Int32 × Int32 × Mm) : Fr [27, 28] (s.2.2.2.2) ((fun r : Int32 × Mm => r.2) (whl (fun s : Int32 × Int32 × Int32 × Int32 × Mm => bd_X11_walks_77  s.1 s.2.1 s.2.2.1 s.2.2.2.1 s.2.2.2.2) (fun s : Int32 × Int32 × Int32 × Int32 × Mm => (0, s.2.2.2.2)) FU s)) := by
  have key : ∀ s : Int32 × Int32 × Int32 × Int32 × Mm, FrS [27, 28] (s.2.2.2.2) (fun s : Int32 × Int32 × Int32 × Int32 × Mm => s.2.2.2.2) (fun r : Int32 × Mm => r.2) ((fun s : Int32 × Int32 × Int32 × Int32 × Mm => bd_X11_walks_77  s.1 s.2.1 s.2.2.1 s.2.2.2.1 s.2.2.2.2) s) := by
    rintro ⟨x2, x3, x4, x5, μ⟩
    show FrS [27, 28] μ _ _ (bd_X11_walks_77  x2 x3 x4 x5 μ)
    unfold bd_X11_walks_77
    repeat' (first | (with_reducible exact Fr.rfl) | (extract_lets) | (refine FrS.ite ?_ ?_) | (refine FrS.inl ?_) | (refine FrS.inr ?_) | (refine Fr.ite ?_ ?_) | (refine Fr.up ?_ (by simp)) | (refine Fr.upJ ?_ (by simp)) | (refine Fr.call ?_ (fr_X10_add _ _) (by simp)) | (refine Fr.call ?_ (fr_X10_begin _) (by simp)) | (refine Fr.call ?_ (fr_X7_setOut _ _ _) (by simp)))
  refine Fr_whl (S := [27, 28]) (fun s : Int32 × Int32 × Int32 × Int32 × Mm => s.2.2.2.2) (fun r : Int32 × Mm => r.2) (fun _ => rfl) (fun s s' h => ?_) (fun s r h => ?_) FU s
  · have := key s; rw [h] at this; exact this
  · have := key s; rw [h] at this; exact this
set_option maxRecDepth 20000 in
set_option maxHeartbeats 4000000 in
theorem fr_X11_walks (p0 : Int32) (μ : Mm) : Fr [27, 28, 36, 37] μ (e_X11_walks p0 μ) := by
  unfold e_X11_walks
  repeat' (first | (with_reducible exact Fr.rfl) | (extract_lets) | (refine FrS.ite ?_ ?_) | (refine FrS.inl ?_) | (refine FrS.inr ?_) | (refine Fr.ite ?_ ?_) | (refine Fr.up ?_ (by simp)) | (refine Fr.upJ ?_ (by simp)) | (refine Fr.call ?_ (fr_X10_add _ _) (by simp)) | (refine Fr.call ?_ (fr_X10_begin _) (by simp)) | (refine Fr.call ?_ (fr_X7_setOut _ _ _) (by simp)) | (refine Fr.call ?_ (fw_X11_walks_77  _) (by simp)))
set_option maxRecDepth 20000 in
set_option maxHeartbeats 4000000 in
theorem fw_X11_waysDecidedBy_22  (s : Int32 × Int32 × Int32 × Int32 × Int32 × Mm) : Fr [34] (s.2.2.2.2.2) ((fun r : Int32 × Int32 × Int32 × Mm => r.2.2.2) (whl (fun s : Int32 × Int32 × Int32 × Int32 × Int32 × Mm => bd_X11_waysDecidedBy_22  s.1 s.2.1 s.2.2.1 s.2.2.2.1 s.2.2.2.2.1 s.2.2.2.2.2) (fun s : Int32 × Int32 × Int32 × Int32 × Int32 × Mm => (0, 0, 0, s.2.2.2.2.2)) FU s)) := by
  have key : ∀ s : Int32 × Int32 × Int32 × Int32 × Int32 × Mm, FrS [34] (s.2.2.2.2.2) (fun s : Int32 × Int32 × Int32 × Int32 × Int32 × Mm => s.2.2.2.2.2) (fun r : Int32 × Int32 × Int32 × Mm => r.2.2.2) ((fun s : Int32 × Int32 × Int32 × Int32 × Int32 × Mm => bd_X11_waysDecidedBy_22  s.1 s.2.1 s.2.2.1 s.2.2.2.1 s.2.2.2.2.1 s.2.2.2.2.2) s) := by
    rintro ⟨x1, x2, x3, x4, x5, μ⟩
    show FrS [34] μ _ _ (bd_X11_waysDecidedBy_22  x1 x2 x3 x4 x5 μ)
    unfold bd_X11_waysDecidedBy_22
    repeat' (first | (with_reducible exact Fr.rfl) | (extract_lets) | (refine FrS.ite ?_ ?_) | (refine FrS.inl ?_) | (refine FrS.inr ?_) | (refine Fr.ite ?_ ?_) | (refine Fr.up ?_ (by simp)) | (refine Fr.upJ ?_ (by simp)) | (refine Fr.call ?_ (fr_X8_start _ _ _) (by simp)))
  refine Fr_whl (S := [34]) (fun s : Int32 × Int32 × Int32 × Int32 × Int32 × Mm => s.2.2.2.2.2) (fun r : Int32 × Int32 × Int32 × Mm => r.2.2.2) (fun _ => rfl) (fun s s' h => ?_) (fun s r h => ?_) FU s
  · have := key s; rw [h] at this; exact this
  · have := key s; rw [h] at this; exact this
set_option maxRecDepth 20000 in
set_option maxHeartbeats 4000000 in
theorem fr_X11_waysDecidedBy (p0 : Int32) (μ : Mm) : Fr [33, 34] μ (e_X11_waysDecidedBy p0 μ) := by
  unfold e_X11_waysDecidedBy
  repeat' (first | (with_reducible exact Fr.rfl) | (extract_lets) | (refine FrS.ite ?_ ?_) | (refine FrS.inl ?_) | (refine FrS.inr ?_) | (refine Fr.ite ?_ ?_) | (refine Fr.up ?_ (by simp)) | (refine Fr.upJ ?_ (by simp)) | (refine Fr.call ?_ (fr_X8_start _ _ _) (by simp)) | (refine Fr.call ?_ (fw_X11_waysDecidedBy_22  _) (by simp)))
set_option maxRecDepth 20000 in
set_option maxHeartbeats 4000000 in
theorem fr_X12_asks  (μ : Mm) : Fr [49, 50] μ (e_X12_asks  μ) := by
  unfold e_X12_asks
  repeat' (first | (with_reducible exact Fr.rfl) | (extract_lets) | (refine FrS.ite ?_ ?_) | (refine FrS.inl ?_) | (refine FrS.inr ?_) | (refine Fr.ite ?_ ?_) | (refine Fr.up ?_ (by simp)) | (refine Fr.upJ ?_ (by simp)) | (refine Fr.call ?_ (fr_X12_enters _ _) (by simp)))
set_option maxRecDepth 20000 in
set_option maxHeartbeats 4000000 in
theorem fw_X12_backs_26  (s : Int32 × Int32 × Int32 × Mm) : Fr [49, 50] (s.2.2.2) ((fun r : Int32 × Int32 × Mm => r.2.2) (whl (fun s : Int32 × Int32 × Int32 × Mm => bd_X12_backs_26  s.1 s.2.1 s.2.2.1 s.2.2.2) (fun s : Int32 × Int32 × Int32 × Mm => (0, 0, s.2.2.2)) FU s)) := by
  have key : ∀ s : Int32 × Int32 × Int32 × Mm, FrS [49, 50] (s.2.2.2) (fun s : Int32 × Int32 × Int32 × Mm => s.2.2.2) (fun r : Int32 × Int32 × Mm => r.2.2) ((fun s : Int32 × Int32 × Int32 × Mm => bd_X12_backs_26  s.1 s.2.1 s.2.2.1 s.2.2.2) s) := by
    rintro ⟨x1, x2, x3, μ⟩
    show FrS [49, 50] μ _ _ (bd_X12_backs_26  x1 x2 x3 μ)
    unfold bd_X12_backs_26
    repeat' (first | (with_reducible exact Fr.rfl) | (extract_lets) | (refine FrS.ite ?_ ?_) | (refine FrS.inl ?_) | (refine FrS.inr ?_) | (refine Fr.ite ?_ ?_) | (refine Fr.up ?_ (by simp)) | (refine Fr.upJ ?_ (by simp)) | (refine Fr.call ?_ (fr_X12_enters _ _) (by simp)))
  refine Fr_whl (S := [49, 50]) (fun s : Int32 × Int32 × Int32 × Mm => s.2.2.2) (fun r : Int32 × Int32 × Mm => r.2.2) (fun _ => rfl) (fun s s' h => ?_) (fun s r h => ?_) FU s
  · have := key s; rw [h] at this; exact this
  · have := key s; rw [h] at this; exact this
set_option maxRecDepth 20000 in
set_option maxHeartbeats 4000000 in
theorem fw_X12_backs_14  (s : Int32 × Int32 × Mm) : Fr [49, 50] (s.2.2) ((fun r : Int32 × Mm => r.2) (whl (fun s : Int32 × Int32 × Mm => bd_X12_backs_14  s.1 s.2.1 s.2.2) (fun s : Int32 × Int32 × Mm => (0, s.2.2)) FU s)) := by
  have key : ∀ s : Int32 × Int32 × Mm, FrS [49, 50] (s.2.2) (fun s : Int32 × Int32 × Mm => s.2.2) (fun r : Int32 × Mm => r.2) ((fun s : Int32 × Int32 × Mm => bd_X12_backs_14  s.1 s.2.1 s.2.2) s) := by
    rintro ⟨x1, x2, μ⟩
    show FrS [49, 50] μ _ _ (bd_X12_backs_14  x1 x2 μ)
    unfold bd_X12_backs_14
    repeat' (first | (with_reducible exact Fr.rfl) | (extract_lets) | (refine FrS.ite ?_ ?_) | (refine FrS.inl ?_) | (refine FrS.inr ?_) | (refine Fr.ite ?_ ?_) | (refine Fr.up ?_ (by simp)) | (refine Fr.upJ ?_ (by simp)) | (refine Fr.call ?_ (fr_X12_enters _ _) (by simp)) | (refine Fr.call ?_ (fw_X12_backs_26  _) (by simp)))
  refine Fr_whl (S := [49, 50]) (fun s : Int32 × Int32 × Mm => s.2.2) (fun r : Int32 × Mm => r.2) (fun _ => rfl) (fun s s' h => ?_) (fun s r h => ?_) FU s
  · have := key s; rw [h] at this; exact this
  · have := key s; rw [h] at this; exact this
set_option maxRecDepth 20000 in
set_option maxHeartbeats 4000000 in
theorem fr_X12_backs  (μ : Mm) : Fr [49, 50] μ (e_X12_backs  μ) := by
  unfold e_X12_backs
  repeat' (first | (with_reducible exact Fr.rfl) | (extract_lets) | (refine FrS.ite ?_ ?_) | (refine FrS.inl ?_) | (refine FrS.inr ?_) | (refine Fr.ite ?_ ?_) | (refine Fr.up ?_ (by simp)) | (refine Fr.upJ ?_ (by simp)) | (refine Fr.call ?_ (fr_X12_enters _ _) (by simp)) | (refine Fr.call ?_ (fw_X12_backs_26  _) (by simp)) | (refine Fr.call ?_ (fw_X12_backs_14  _) (by simp)))
set_option maxRecDepth 20000 in
set_option maxHeartbeats 4000000 in
theorem fr_X12_canvass  (μ : Mm) : Fr [49, 50] μ (e_X12_canvass  μ) := by
  unfold e_X12_canvass
  repeat' (first | (with_reducible exact Fr.rfl) | (extract_lets) | (refine FrS.ite ?_ ?_) | (refine FrS.inl ?_) | (refine FrS.inr ?_) | (refine Fr.ite ?_ ?_) | (refine Fr.up ?_ (by simp)) | (refine Fr.upJ ?_ (by simp)) | (refine Fr.call ?_ (fr_X12_entersFewest _ _) (by simp)))
set_option maxRecDepth 20000 in
set_option maxHeartbeats 4000000 in
theorem fr_X12_crowd  (μ : Mm) : Fr [49, 50] μ (e_X12_crowd  μ) := by
  unfold e_X12_crowd
  repeat' (first | (with_reducible exact Fr.rfl) | (extract_lets) | (refine FrS.ite ?_ ?_) | (refine FrS.inl ?_) | (refine FrS.inr ?_) | (refine Fr.ite ?_ ?_) | (refine Fr.up ?_ (by simp)) | (refine Fr.upJ ?_ (by simp)) | (refine Fr.call ?_ (fr_X12_enters _ _) (by simp)))
set_option maxRecDepth 20000 in
set_option maxHeartbeats 4000000 in
theorem fr_X12_fits  (μ : Mm) : Fr [49, 50] μ (e_X12_fits  μ) := by
  unfold e_X12_fits
  repeat' (first | (with_reducible exact Fr.rfl) | (extract_lets) | (refine FrS.ite ?_ ?_) | (refine FrS.inl ?_) | (refine FrS.inr ?_) | (refine Fr.ite ?_ ?_) | (refine Fr.up ?_ (by simp)) | (refine Fr.upJ ?_ (by simp)) | (refine Fr.call ?_ (fr_X12_enters _ _) (by simp)))
set_option maxRecDepth 20000 in
set_option maxHeartbeats 4000000 in
theorem fr_X12_heads  (μ : Mm) : Fr [49, 50] μ (e_X12_heads  μ) := by
  unfold e_X12_heads
  repeat' (first | (with_reducible exact Fr.rfl) | (extract_lets) | (refine FrS.ite ?_ ?_) | (refine FrS.inl ?_) | (refine FrS.inr ?_) | (refine Fr.ite ?_ ?_) | (refine Fr.up ?_ (by simp)) | (refine Fr.upJ ?_ (by simp)) | (refine Fr.call ?_ (fr_X12_enters _ _) (by simp)))
set_option maxRecDepth 20000 in
set_option maxHeartbeats 4000000 in
theorem fr_X12_just (p0 : Int32) (μ : Mm) : Fr [49, 50] μ (e_X12_just p0 μ) := by
  unfold e_X12_just
  repeat' (first | (with_reducible exact Fr.rfl) | (extract_lets) | (refine FrS.ite ?_ ?_) | (refine FrS.inl ?_) | (refine FrS.inr ?_) | (refine Fr.ite ?_ ?_) | (refine Fr.up ?_ (by simp)) | (refine Fr.upJ ?_ (by simp)) | (refine Fr.call ?_ (fr_X12_enters _ _) (by simp)) | (refine Fr.call ?_ (fr_X12_entersFewest _ _) (by simp)))
set_option maxRecDepth 20000 in
set_option maxHeartbeats 4000000 in
theorem fr_X12_leads (p0 : Int32) (p1 : Int32) (μ : Mm) : Fr [49, 52, 61] μ (e_X12_leads p0 p1 μ) := by
  unfold e_X12_leads
  repeat' (first | (with_reducible exact Fr.rfl) | (extract_lets) | (refine FrS.ite ?_ ?_) | (refine FrS.inl ?_) | (refine FrS.inr ?_) | (refine Fr.ite ?_ ?_) | (refine Fr.up ?_ (by simp)) | (refine Fr.upJ ?_ (by simp)) | (refine Fr.call ?_ (fr_X12_counted _ _) (by simp)) | (refine Fr.call ?_ (fr_X12_leadsTo _ _ _) (by simp)) | (refine Fr.call ?_ (fr_X12_putsBy _) (by simp)))
set_option maxRecDepth 20000 in
set_option maxHeartbeats 4000000 in
theorem fw_X12_line_21  (s : Int32 × Int32 × Mm) : Fr [49, 50] (s.2.2) ((fun r : Int32 × Mm => r.2) (whl (fun s : Int32 × Int32 × Mm => bd_X12_line_21  s.1 s.2.1 s.2.2) (fun s : Int32 × Int32 × Mm => (0, s.2.2)) FU s)) := by
  have key : ∀ s : Int32 × Int32 × Mm, FrS [49, 50] (s.2.2) (fun s : Int32 × Int32 × Mm => s.2.2) (fun r : Int32 × Mm => r.2) ((fun s : Int32 × Int32 × Mm => bd_X12_line_21  s.1 s.2.1 s.2.2) s) := by
    rintro ⟨x1, x2, μ⟩
    show FrS [49, 50] μ _ _ (bd_X12_line_21  x1 x2 μ)
    unfold bd_X12_line_21
    repeat' (first | (with_reducible exact Fr.rfl) | (extract_lets) | (refine FrS.ite ?_ ?_) | (refine FrS.inl ?_) | (refine FrS.inr ?_) | (refine Fr.ite ?_ ?_) | (refine Fr.up ?_ (by simp)) | (refine Fr.upJ ?_ (by simp)) | (refine Fr.call ?_ (fr_X12_enters _ _) (by simp)))
  refine Fr_whl (S := [49, 50]) (fun s : Int32 × Int32 × Mm => s.2.2) (fun r : Int32 × Mm => r.2) (fun _ => rfl) (fun s s' h => ?_) (fun s r h => ?_) FU s
  · have := key s; rw [h] at this; exact this
  · have := key s; rw [h] at this; exact this
set_option maxRecDepth 20000 in
set_option maxHeartbeats 4000000 in
theorem fw_X12_line_13  (s : Int32 × Mm) : Fr [49, 50] (s.2) ((fun r : Mm => r) (whl (fun s : Int32 × Mm => bd_X12_line_13  s.1 s.2) (fun s : Int32 × Mm => s.2) FU s)) := by
  have key : ∀ s : Int32 × Mm, FrS [49, 50] (s.2) (fun s : Int32 × Mm => s.2) (fun r : Mm => r) ((fun s : Int32 × Mm => bd_X12_line_13  s.1 s.2) s) := by
    rintro ⟨x1, μ⟩
    show FrS [49, 50] μ _ _ (bd_X12_line_13  x1 μ)
    unfold bd_X12_line_13
    repeat' (first | (with_reducible exact Fr.rfl) | (extract_lets) | (refine FrS.ite ?_ ?_) | (refine FrS.inl ?_) | (refine FrS.inr ?_) | (refine Fr.ite ?_ ?_) | (refine Fr.up ?_ (by simp)) | (refine Fr.upJ ?_ (by simp)) | (refine Fr.call ?_ (fr_X12_enters _ _) (by simp)) | (refine Fr.call ?_ (fw_X12_line_21  _) (by simp)))
  refine Fr_whl (S := [49, 50]) (fun s : Int32 × Mm => s.2) (fun r : Mm => r) (fun _ => rfl) (fun s s' h => ?_) (fun s r h => ?_) FU s
  · have := key s; rw [h] at this; exact this
  · have := key s; rw [h] at this; exact this
set_option maxRecDepth 20000 in
set_option maxHeartbeats 4000000 in
theorem fr_X12_line  (μ : Mm) : Fr [49, 50] μ (e_X12_line  μ) := by
  unfold e_X12_line
  repeat' (first | (with_reducible exact Fr.rfl) | (extract_lets) | (refine FrS.ite ?_ ?_) | (refine FrS.inl ?_) | (refine FrS.inr ?_) | (refine Fr.ite ?_ ?_) | (refine Fr.up ?_ (by simp)) | (refine Fr.upJ ?_ (by simp)) | (refine Fr.call ?_ (fr_X12_enters _ _) (by simp)) | (refine Fr.call ?_ (fw_X12_line_21  _) (by simp)) | (refine Fr.call ?_ (fw_X12_line_13  _) (by simp)))
set_option maxRecDepth 20000 in
set_option maxHeartbeats 4000000 in
theorem fr_X12_sacks (p0 : Int32) (p1 : Int32) (μ : Mm) : Fr [49, 52, 61] μ (e_X12_sacks p0 p1 μ) := by
  unfold e_X12_sacks
  repeat' (first | (with_reducible exact Fr.rfl) | (extract_lets) | (refine FrS.ite ?_ ?_) | (refine FrS.inl ?_) | (refine FrS.inr ?_) | (refine Fr.ite ?_ ?_) | (refine Fr.up ?_ (by simp)) | (refine Fr.upJ ?_ (by simp)) | (refine Fr.call ?_ (fr_X12_counted _ _) (by simp)) | (refine Fr.call ?_ (fr_X12_putsBy _) (by simp)) | (refine Fr.call ?_ (fr_X12_sacksTo _ _ _) (by simp)))
set_option maxRecDepth 20000 in
set_option maxHeartbeats 4000000 in
theorem fr_X12_steps (p0 : Int32) (μ : Mm) : Fr [49, 52, 61] μ (e_X12_steps p0 μ) := by
  unfold e_X12_steps
  repeat' (first | (with_reducible exact Fr.rfl) | (extract_lets) | (refine FrS.ite ?_ ?_) | (refine FrS.inl ?_) | (refine FrS.inr ?_) | (refine Fr.ite ?_ ?_) | (refine Fr.up ?_ (by simp)) | (refine Fr.upJ ?_ (by simp)) | (refine Fr.call ?_ (fr_X12_counted _ _) (by simp)) | (refine Fr.call ?_ (fr_X12_putsBy _) (by simp)) | (refine Fr.call ?_ (fr_X12_stepsOff _ _ _) (by simp)))
set_option maxRecDepth 20000 in
set_option maxHeartbeats 4000000 in
theorem fr_X12_strongest  (μ : Mm) : Fr [49, 50] μ (e_X12_strongest  μ) := by
  unfold e_X12_strongest
  repeat' (first | (with_reducible exact Fr.rfl) | (extract_lets) | (refine FrS.ite ?_ ?_) | (refine FrS.inl ?_) | (refine FrS.inr ?_) | (refine Fr.ite ?_ ?_) | (refine Fr.up ?_ (by simp)) | (refine Fr.upJ ?_ (by simp)) | (refine Fr.call ?_ (fr_X12_enters _ _) (by simp)))
set_option maxRecDepth 20000 in
set_option maxHeartbeats 4000000 in
theorem fr_X12_turnsTo (p0 : Int32) (p1 : Int32) (μ : Mm) : Fr [49, 52, 61] μ (e_X12_turnsTo p0 p1 μ) := by
  unfold e_X12_turnsTo
  repeat' (first | (with_reducible exact Fr.rfl) | (extract_lets) | (refine FrS.ite ?_ ?_) | (refine FrS.inl ?_) | (refine FrS.inr ?_) | (refine Fr.ite ?_ ?_) | (refine Fr.up ?_ (by simp)) | (refine Fr.upJ ?_ (by simp)) | (refine Fr.call ?_ (fr_X12_counted _ _) (by simp)) | (refine Fr.call ?_ (fr_X12_putsBy _) (by simp)) | (refine Fr.call ?_ (fr_X12_wishesTo _ _ _) (by simp)))
set_option maxRecDepth 20000 in
set_option maxHeartbeats 4000000 in
theorem fr_X12_walksTo (p0 : Nat) (p1 : Int32) (p2 : Int32) (μ : Mm) : Fr [59, 60] μ (e_X12_walksTo p0 p1 p2 μ) := by
  unfold e_X12_walksTo
  repeat' (first | (with_reducible exact Fr.rfl) | (extract_lets) | (refine FrS.ite ?_ ?_) | (refine FrS.inl ?_) | (refine FrS.inr ?_) | (refine Fr.ite ?_ ?_) | (refine Fr.up ?_ (by simp)) | (refine Fr.upJ ?_ (by simp)) | (refine Fr.call ?_ (fr_X12_ruled _) (by simp)))
set_option maxRecDepth 20000 in
set_option maxHeartbeats 4000000 in
theorem fw_X1_pass_7 (b : Nat) (p0 : Nat) (s : Int32 × Int32 × Mm) : Fr [(b + 5), (b + 6), (p0 + 2)] (s.2.2) ((fun r : Mm => r) (whl (fun s : Int32 × Int32 × Mm => bd_X1_pass_7 b p0 s.1 s.2.1 s.2.2) (fun s : Int32 × Int32 × Mm => s.2.2) FU s)) := by
  have key : ∀ s : Int32 × Int32 × Mm, FrS [(b + 5), (b + 6), (p0 + 2)] (s.2.2) (fun s : Int32 × Int32 × Mm => s.2.2) (fun r : Mm => r) ((fun s : Int32 × Int32 × Mm => bd_X1_pass_7 b p0 s.1 s.2.1 s.2.2) s) := by
    rintro ⟨x2, x3, μ⟩
    show FrS [(b + 5), (b + 6), (p0 + 2)] μ _ _ (bd_X1_pass_7 b p0 x2 x3 μ)
    unfold bd_X1_pass_7
    repeat' (first | (with_reducible exact Fr.rfl) | (extract_lets) | (refine FrS.ite ?_ ?_) | (refine FrS.inl ?_) | (refine FrS.inr ?_) | (refine Fr.ite ?_ ?_) | (refine Fr.up ?_ (by simp)) | (refine Fr.upJ ?_ (by simp)) | (refine Fr.call ?_ (fr_X1_wayOf _ _ _ _ _) (by simp)))
  refine Fr_whl (S := [(b + 5), (b + 6), (p0 + 2)]) (fun s : Int32 × Int32 × Mm => s.2.2) (fun r : Mm => r) (fun _ => rfl) (fun s s' h => ?_) (fun s r h => ?_) FU s
  · have := key s; rw [h] at this; exact this
  · have := key s; rw [h] at this; exact this
set_option maxRecDepth 20000 in
set_option maxHeartbeats 4000000 in
theorem fw_X1_pass_39 (b : Nat) (p0 : Nat) (s : Int32 × Int32 × Mm) : Fr [(b + 3)] (s.2.2) ((fun r : Int32 × Mm => r.2) (whl (fun s : Int32 × Int32 × Mm => bd_X1_pass_39 b p0 s.1 s.2.1 s.2.2) (fun s : Int32 × Int32 × Mm => (0, s.2.2)) FU s)) := by
  have key : ∀ s : Int32 × Int32 × Mm, FrS [(b + 3)] (s.2.2) (fun s : Int32 × Int32 × Mm => s.2.2) (fun r : Int32 × Mm => r.2) ((fun s : Int32 × Int32 × Mm => bd_X1_pass_39 b p0 s.1 s.2.1 s.2.2) s) := by
    rintro ⟨x3, x4, μ⟩
    show FrS [(b + 3)] μ _ _ (bd_X1_pass_39 b p0 x3 x4 μ)
    unfold bd_X1_pass_39
    repeat' (first | (with_reducible exact Fr.rfl) | (extract_lets) | (refine FrS.ite ?_ ?_) | (refine FrS.inl ?_) | (refine FrS.inr ?_) | (refine Fr.ite ?_ ?_) | (refine Fr.up ?_ (by simp)) | (refine Fr.upJ ?_ (by simp)) | (refine Fr.call ?_ (fr_X1_wayOf _ _ _ _ _) (by simp)) | (refine Fr.call ?_ (fw_X1_pass_7 _ _ _) (by simp)))
  refine Fr_whl (S := [(b + 3)]) (fun s : Int32 × Int32 × Mm => s.2.2) (fun r : Int32 × Mm => r.2) (fun _ => rfl) (fun s s' h => ?_) (fun s r h => ?_) FU s
  · have := key s; rw [h] at this; exact this
  · have := key s; rw [h] at this; exact this
set_option maxRecDepth 20000 in
set_option maxHeartbeats 4000000 in
theorem fr_X1_pass (b : Nat) (p0 : Nat) (μ : Mm) : Fr [(b + 3), (b + 5), (b + 6), (p0 + 2), b] μ (e_X1_pass b p0 μ) := by
  unfold e_X1_pass
  repeat' (first | (with_reducible exact Fr.rfl) | (extract_lets) | (refine FrS.ite ?_ ?_) | (refine FrS.inl ?_) | (refine FrS.inr ?_) | (refine Fr.ite ?_ ?_) | (refine Fr.up ?_ (by simp)) | (refine Fr.upJ ?_ (by simp)) | (refine Fr.call ?_ (fr_X1_wayOf _ _ _ _ _) (by simp)) | (refine Fr.call ?_ (fw_X1_pass_7 _ _ _) (by simp)) | (refine Fr.call ?_ (fw_X1_pass_39 _ _ _) (by simp)))

/-! the class takes a sign -/
def McS (S : RS) (μ : Mm) : Prop := McC S.1 S.2.1 S.2.2.1 S.2.2.2.1 S.2.2.2.2.1 S.2.2.2.2.2 μ
section YD
variable {o k : List Nat} {d g i x : Nat} {c : Nat → Bool} {μ : Mm}
theorem OuC.fr {μ' : Mm} {S : List Nat} (h : OuC o μ) (f : Fr S μ μ') (hb : 20 ∉ S ∧ 21 ∉ S) : OuC o μ' := by
  unfold OuC; rw [f.1 20 hb.1, f.1 21 hb.2]; exact h
theorem PiC.fr {μ' : Mm} {S : List Nat} (h : PiC k μ) (f : Fr S μ μ') (hb : 23 ∉ S ∧ 24 ∉ S) : PiC k μ' := by
  unfold PiC; rw [f.1 23 hb.1, f.1 24 hb.2]; exact h
theorem OuC.up {j : Nat} {v : Int32} (h : OuC o μ) (hj : j ≠ 1) : OuC o (upI μ 20 j v) := by
  refine ⟨?_, fun i hi => ?_⟩
  · rw [rI, if_neg (by omega)]; exact h.1
  · rw [rI, if_neg (by omega)]; exact h.2 i hi
theorem PiC.up {j : Nat} {v : Int32} (h : PiC k μ) : PiC k (upI μ 20 j v) := h.fr (S := [20]) (Fr.rfl.up (by simp)) (by decide)
theorem Cr_num {t : Nat} (ht : t ≠ 1004) : (1004 ∈ o ++ [t]) ↔ 1004 ∈ o := by
  rw [List.mem_append, List.mem_singleton]
  exact ⟨fun y => y.elim id (fun z => absurd z.symm ht), .inl⟩
theorem Cr_tw {r : Nat} (hr : 1 ≤ r) : (1004 ∈ o ++ (tw r k).map cdO) ↔ 1004 ∈ o := by
  rw [List.mem_append]
  refine ⟨fun y => y.elim id (fun z => ?_), .inl⟩
  obtain ⟨u, hu, he⟩ := List.mem_map.mp z
  have := cdO_ok (c := u) (by have := (tw_in hu).1; omega)
  omega
theorem nI_ne (a : Nat) (ha : a < 256) (x : Nat) (hx : x < 256) : (nI x = nI a) ↔ x = a := nI_eq (by omega) (by omega)
theorem C_thing (h : McC o k true d c g μ) (hI : InV o k true d g i) (hi : i < 40) (hx : x < 256) : p_X5_takeThing 20 (nI x) μ ∧ (∀ S', stp o k true d c g x = some S' → ¬ v_X5_takeThing 20 (nI x) μ = 0 ∧ McS S' (e_X5_takeThing 20 (nI x) μ)) ∧ (stp o k true d c g x = none → v_X5_takeThing 20 (nI x) μ = 0) := by
  obtain ⟨h1, h2, h3, h4, h5, h6, h7⟩ := h
  obtain ⟨i1, i2, i3, i4, i5, i6, i7, i8⟩ := hI
  have g0 : g = 0 := i6 rfl
  subst g0
  have e45 : (nI x = 45) ↔ x = 45 := nI_eq (b := 45) (by omega) (by omega)
  have e40 : (nI x = 40) ↔ x = 40 := nI_eq (b := 40) (by omega) (by omega)
  have o1 : ¬ ((1 : Int32) = 0) := by decide
  obtain ⟨x1, x2⟩ := C_index (μ := μ) hx
  unfold p_X5_takeThing v_X5_takeThing e_X5_takeThing stp
  simp only [e45, e40, isDig x hx, if_true, forall_eq]
  by_cases q1 : x = 45
  · have n126 : nI 126 = 126 := rfl
    obtain ⟨p1, p2, p3⟩ := C_push (x := 126) h3 (by omega)
    rw [n126] at p1 p2 p3
    simp only [q1, if_true, true_imp_iff, not_true_eq_false, false_imp_iff, and_true, reduceCtorEq]
    refine ⟨p1, fun S' hS => ?_⟩
    cases hS
    refine ⟨o1, h1.fr p3 (by decide), ?_, p2, ?_⟩
    · show (e_X4_push (20 + 3) 126 μ).1 20 2 = _
      rw [p3.1 20 (by decide)]; exact h2
    · unfold FgC
      rw [p3.1 20 (by decide)]; exact ⟨h4, h5, h6, h7⟩
  · simp only [q1, if_false, false_imp_iff, true_and, not_false_eq_true, true_imp_iff]
    by_cases q2 : x = 40
    · simp only [q2, if_true, true_imp_iff, not_true_eq_false, false_imp_iff, and_true]
      unfold p_X5_open v_X5_open e_X5_open
      have g4 : (nI d < 4) ↔ d < 4 := nI_ltI (b := 4) (by omega) (by omega)
      rw [h5]
      simp only [g4]
      have n40 : nI 40 = 40 := rfl
      obtain ⟨p1, p2, p3⟩ := C_push (x := 40) h3 (by omega)
      rw [n40] at p1 p2 p3
      by_cases y : d < 4
      · simp only [y, if_true, true_imp_iff, reduceCtorEq, false_imp_iff, and_true]
        refine ⟨p1, fun S' hS => ?_⟩
        cases hS
        generalize e_X4_push (20 + 3) 40 μ = μ3 at p2 p3 ⊢
        have k6 : μ3.1 20 6 = nI d := by rw [p3.1 20 (by decide)]; exact h5
        have k7 : (upI μ3 20 6 (μ3.1 20 6 + 1)).1 20 6 = nI (d + 1) := by rw [rI, if_pos ⟨rfl, rfl⟩, k6, nI_1]
        have k8 : (upI μ3 20 6 (μ3.1 20 6 + 1)).1 20 7 = μ.1 20 7 := by rw [rI, if_neg (by omega), p3.1 20 (by decide)]
        rw [k7, k8]
        refine ⟨o1, ((h1.fr p3 (by decide)).up (by omega)).up (by omega), ?_, p2.up.up, ?_, ?_, fun j hj => ?_, ?_⟩
        · show (upI _ 20 7 _).1 20 2 = _
          rw [rI, if_neg (by omega), rI, if_neg (by omega), p3.1 20 (by decide)]; exact h2
        · show (upI _ 20 7 _).1 20 5 = _
          rw [rI, if_neg (by omega), rI, if_neg (by omega), p3.1 20 (by decide)]; exact h4
        · show (upI _ 20 7 _).1 20 6 = _
          rw [rI, if_neg (by omega), k7]
        · show bt ((upI _ 20 7 _).1 20 7) j = if j = d + 1 then false else c j
          rw [rI, if_pos ⟨rfl, rfl⟩, b_and, bt_not _ (by omega), bt_one (d + 1) (by omega) j (by omega), h6 j hj]
          by_cases z : j = d + 1
          · rw [decide_eq_true z, if_pos z]; simp
          · rw [decide_eq_false z, if_neg z]; simp
        · show (upI _ 20 7 _).1 20 8 = _
          rw [rI, if_neg (by omega), rI, if_neg (by omega), p3.1 20 (by decide)]; exact h7
      · simp only [y, if_false, false_imp_iff, reduceCtorEq, implies_true, and_true]
    · simp only [q2, if_false, false_imp_iff, true_and, not_false_eq_true, true_imp_iff]
      by_cases q3 : 48 ≤ x ∧ x ≤ 57
      · simp only [q3, if_true, o1, if_false, false_imp_iff, true_and, not_false_eq_true, true_imp_iff, reduceCtorEq, and_true, and_self]
        have et : nI x - 48 = tokC (x - 48) := by
          rw [show (48 : Int32) = nI 48 from rfl, nI_sub (by omega)]
          unfold tokC
          rw [if_pos (by omega)]
        obtain ⟨m1, m2, m3, m4⟩ := C_emit (t := x - 48) h1 (by omega) et
        refine ⟨⟨x1, m1⟩, fun S' hS => ?_⟩
        cases hS
        generalize e_X5_emit 20 (nI x - 48) μ = μ9 at m2 m3 m4 ⊢
        refine ⟨(m2.up (by omega)).up (by omega), ?_, (h3.fr m4 (by decide)).up.up, ?_, ?_, fun j hj => ?_, ?_⟩
        · show (upI _ 20 5 _).1 20 2 = if 1004 ∈ o ++ [x - 48] then 1 else 0
          rw [rI, if_neg (by omega), rI, if_neg (by omega), m3 2 (by omega)]
          simp only [Cr_num (o := o) (t := x - 48) (by omega)]
          exact h2
        · show (upI _ 20 5 _).1 20 5 = _
          rw [rI, if_pos ⟨rfl, rfl⟩]; rfl
        · show (upI _ 20 5 _).1 20 6 = _
          rw [rI, if_neg (by omega), rI, if_neg (by omega), m3 6 (by omega)]; exact h5
        · show bt ((upI _ 20 5 _).1 20 7) j = _
          rw [rI, if_neg (by omega), rI, if_neg (by omega), m3 7 (by omega)]; exact h6 j hj
        · show (upI _ 20 5 _).1 20 8 = _
          rw [rI, if_neg (by omega), rI, if_pos ⟨rfl, rfl⟩]; rfl
      · simp only [q3, if_false, if_true, true_imp_iff, not_true_eq_false, false_imp_iff, and_true]
        rw [x2]
        cases ht : thg' x with
        | none =>
          have w0 : wxI none < 0 := by decide
          simp only [w0, if_true, not_true_eq_false, false_imp_iff, and_true, Option.map_none, reduceCtorEq, implies_true]
          exact x1
        | some t =>
          have ht7 : t < 7 := by have := (ff_rg ht).2; omega
          have w0 : ¬ (wxI (some t) < 0) := nI_pos (by omega)
          have e0 : wxI (some t) = nI t := rfl
          simp only [w0, if_false, not_false_eq_true, true_imp_iff, Option.map_some, reduceCtorEq, false_imp_iff, and_true]
          rw [e0]
          have et : -1 - nI t = tokC (1000 + t) := by
            unfold tokC
            rw [if_neg (by omega), if_pos (by omega), Nat.add_sub_cancel_left]
          obtain ⟨m1, m2, m3, m4⟩ := C_emit (t := 1000 + t) h1 (by omega) et
          have k2 : (e_X5_emit 20 (-1 - nI t) μ).1 20 2 = if 1004 ∈ o then 1 else 0 := by rw [m3 2 (by omega)]; exact h2
          rw [k2]
          have t4 : (nI t = 4) ↔ t = 4 := nI_eq (b := 4) (by omega) (by omega)
          simp only [t4]
          have ec : ((if 1004 ∈ o then (1 : Int32) else 0) ||| (if t = 4 then 1 else 0)) = if 1004 ∈ o ++ [1000 + t] then 1 else 0 := by
            have em : (1004 ∈ o ++ [1000 + t]) ↔ (1004 ∈ o ∨ t = 4) := by
              rw [List.mem_append, List.mem_singleton]
              exact ⟨fun y => y.elim .inl (fun z => .inr (by omega)), fun y => y.elim .inl (fun z => .inr (by omega))⟩
            simp only [em]
            by_cases a1 : 1004 ∈ o
            · by_cases a2 : t = 4
              · simp only [a1, a2, if_true, or_self]; rfl
              · simp only [a1, a2, if_true, if_false, or_false]; rfl
            · by_cases a2 : t = 4
              · simp only [a1, a2, if_true, if_false, or_true]; rfl
              · simp only [a1, a2, if_false, or_self]; rfl
          rw [ec]
          refine ⟨⟨x1, m1, ?_, ?_⟩, fun S' hS => ?_⟩
          · by_cases a1 : 1004 ∈ o ++ [1000 + t]
            · rw [if_pos a1]; rfl
            · rw [if_neg a1]; rfl
          · by_cases a1 : 1004 ∈ o ++ [1000 + t]
            · rw [if_pos a1]; rfl
            · rw [if_neg a1]; rfl
          · cases hS
            generalize e_X5_emit 20 (-1 - nI t) μ = μ11 at m2 m3 m4 k2 ⊢
            refine ⟨o1, (m2.up (by omega)).up (by omega), ?_, (h3.fr m4 (by decide)).up.up, ?_, ?_, fun j hj => ?_, ?_⟩
            · show (upI _ 20 5 _).1 20 2 = _
              rw [rI, if_neg (by omega), rI, if_pos ⟨rfl, rfl⟩]
            · show (upI _ 20 5 _).1 20 5 = _
              rw [rI, if_pos ⟨rfl, rfl⟩]; rfl
            · show (upI _ 20 5 _).1 20 6 = _
              rw [rI, if_neg (by omega), rI, if_neg (by omega), m3 6 (by omega)]; exact h5
            · show bt ((upI _ 20 5 _).1 20 7) j = _
              rw [rI, if_neg (by omega), rI, if_neg (by omega), m3 7 (by omega)]; exact h6 j hj
            · show (upI _ 20 5 _).1 20 8 = _
              rw [rI, if_neg (by omega), rI, if_neg (by omega), m3 8 (by omega)]; exact h7
end YD

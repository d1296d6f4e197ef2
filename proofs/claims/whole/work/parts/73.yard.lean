/-! the class takes a sign behind a thing -/
section YE
variable {o k : List Nat} {d g i x : Nat} {c : Nat → Bool} {μ : Mm}
theorem C_pop' {k : List Nat} (h : PiC k μ) (hl : k.length ≤ 40) : p_X4_pop (20 + 3) μ ∧ PiC k.tail (e_X4_pop (20 + 3) μ) ∧ Fr [23] μ (e_X4_pop (20 + 3) μ) := by
  cases k with
  | nil =>
    have h0 : μ.1 (20 + 3) 1 = 0 := h.1
    unfold p_X4_pop e_X4_pop
    rw [h0, if_pos rfl]
    exact ⟨fun y => absurd rfl y, h, Fr.rfl⟩
  | cons x k =>
    obtain ⟨p1, p2, p3, p4⟩ := C_pop h (by simp only [List.length_cons] at hl; omega)
    exact ⟨p1, p3, p4⟩
theorem C_behind (h : McC o k false d c g μ) (hI : InV o k false d g i) (hi : i < 40) (hx : x < 256) : p_X5_takeBehindThing 20 (nI x) μ ∧ (∀ S', stp o k false d c g x = some S' → ¬ v_X5_takeBehindThing 20 (nI x) μ = 0 ∧ McS S' (e_X5_takeBehindThing 20 (nI x) μ)) ∧ (stp o k false d c g x = none → v_X5_takeBehindThing 20 (nI x) μ = 0) := by
  obtain ⟨h1, h2, h3, h4, h5, h6, h7⟩ := h
  obtain ⟨i1, i2, i3, i4, i5, i6, i7, i8⟩ := hI
  have o1 : ¬ ((1 : Int32) = 0) := by decide
  unfold p_X5_takeBehindThing v_X5_takeBehindThing e_X5_takeBehindThing stp
  simp only [isDig x hx, forall_eq, Bool.false_eq_true, if_false]
  by_cases q1 : 48 ≤ x ∧ x ≤ 57
  · simp only [q1, and_self, if_true, o1, if_false, false_imp_iff, true_and, not_false_eq_true, true_imp_iff]
    unfold p_X5_takeDigit v_X5_takeDigit e_X5_takeDigit
    have l1 : (nI g < 1) ↔ g < 1 := nI_ltI (b := 1) (by omega) (by omega)
    have l3 : ((3 : Int32) ≤ nI g) ↔ 3 ≤ g := nI_leI (a := 3) (by omega) (by omega)
    have lo : ((1 : Int32) ≤ nI o.length) ↔ 1 ≤ o.length := nI_leI (a := 1) (by omega) (by omega)
    rw [h7, h1.1]
    simp only [l1, l3, lo]
    by_cases y : 1 ≤ g ∧ g < 3
    · obtain ⟨oo, v, e1, e2⟩ := i7 y.1
      have hv : v < 100 := by
        have : g = 1 ∨ g = 2 := by omega
        rcases this with rfl | rfl
        · have : v < 10 := e2
          omega
        · exact e2
      subst e1
      have ed : (oo ++ [v]).dropLast ++ [10 * (oo ++ [v]).getLastD 0 + (x - 48)] = oo ++ [10 * v + (x - 48)] := by simp
      have el : (oo ++ [v]).length = oo.length + 1 := by simp
      rw [el] at i1
      have en : nI (oo.length + 1) - 1 = nI oo.length := by
        rw [show (1 : Int32) = nI 1 from rfl, nI_sub (by omega)]; rfl
      have y1 : ¬ g < 1 := by omega
      have y3 : ¬ 3 ≤ g := by omega
      have y5 : 1 ≤ oo.length + 1 := by omega
      rw [el, ed, en, nI_clamp (show oo.length < 2 ^ 31 by omega)]
      simp only [y, and_self, y1, y3, y5, if_true, if_false, o1, not_false_eq_true, true_imp_iff, reduceCtorEq, false_imp_iff, and_true, true_and]
      have vk : vp_in (nI oo.length) 41 := vp_in_nI (by omega) (by omega)
      refine ⟨vk, fun S' hS => ?_⟩
      cases hS
      have hlast : μ.1 21 oo.length = nI v := by
        have := h1.2 oo.length (by rw [el]; omega)
        rw [getD_snoc (by omega), if_pos rfl] at this
        rw [this]
        unfold tokC
        rw [if_pos (by omega)]
      have ev : 10 * μ.1 (20 + 1) oo.length + (nI x - 48) = tokC (10 * v + (x - 48)) := by
        have : μ.1 (20 + 1) oo.length = nI v := hlast
        rw [this, show (10 : Int32) = nI 10 from rfl, nI_mul, show (48 : Int32) = nI 48 from rfl, nI_sub (by omega), nI_add]
        unfold tokC
        rw [if_pos (by omega)]
      rw [ev]
      refine ⟨⟨?_, fun j hj => ?_⟩, ?_, ?_, ?_, ?_, fun j hj => ?_, ?_⟩
      · show (upI _ 20 8 _).1 20 1 = nI (oo ++ [10 * v + (x - 48)]).length
        rw [rI, if_neg (by omega), rI, if_neg (by omega), h1.1]; simp
      · show (upI _ 20 8 _).1 21 j = tokC ((oo ++ [10 * v + (x - 48)]).getD j 0)
        have hj' : j < (oo ++ [10 * v + (x - 48)]).length := hj
        rw [List.length_append] at hj'
        have hj2 : j < oo.length + 1 := hj'
        rw [rI, if_neg (by omega), rI, getD_snoc hj2]
        by_cases z : j = oo.length
        · rw [if_pos ⟨rfl, z⟩, if_pos z]
        · rw [if_neg (fun w => z w.2), if_neg z]
          have := h1.2 j (by rw [el]; omega)
          rw [getD_snoc hj2, if_neg z] at this
          exact this
      · show (upI _ 20 8 _).1 20 2 = if 1004 ∈ oo ++ [10 * v + (x - 48)] then 1 else 0
        rw [rI, if_neg (by omega), rI, if_neg (by omega)]
        simp only [Cr_num (o := oo) (t := 10 * v + (x - 48)) (by omega)]
        have h2' : μ.1 20 2 = if 1004 ∈ oo ++ [v] then 1 else 0 := h2
        simp only [Cr_num (o := oo) (t := v) (by omega)] at h2'
        exact h2'
      · refine PiC.up (h3.fr (S := [21]) (Fr.rfl.up (by simp)) (by decide))
      · show (upI _ 20 8 _).1 20 5 = _
        rw [rI, if_neg (by omega), rI, if_neg (by omega)]; exact h4
      · show (upI _ 20 8 _).1 20 6 = _
        rw [rI, if_neg (by omega), rI, if_neg (by omega)]; exact h5
      · show bt ((upI _ 20 8 _).1 20 7) j = _
        rw [rI, if_neg (by omega), rI, if_neg (by omega)]; exact h6 j hj
      · show (upI _ 20 8 _).1 20 8 = _
        rw [rI, if_pos ⟨rfl, rfl⟩, rI, if_neg (by omega), h7, nI_1]
    · simp only [y, if_false, reduceCtorEq, false_imp_iff, implies_true, true_and, true_imp_iff]
      by_cases y1 : g < 1
      · simp only [y1, if_true, not_true_eq_false, false_imp_iff, and_true]
      · have y3 : 3 ≤ g := by omega
        simp only [y1, y3, if_true, if_false, not_true_eq_false, false_imp_iff, implies_true, and_true]
  · simp only [q1, if_false, if_true, true_imp_iff, not_true_eq_false, false_imp_iff, and_true]
    have h1' : OuC o (upI μ 20 8 0) := h1.up (by omega)
    have h3' : PiC k (upI μ 20 8 0) := h3.up
    have k2 : (upI μ 20 8 0).1 20 2 = if 1004 ∈ o then 1 else 0 := by rw [rI, if_neg (by omega)]; exact h2
    have k5 : (upI μ 20 8 0).1 20 5 = 0 := by rw [rI, if_neg (by omega)]; exact h4
    have k6 : (upI μ 20 8 0).1 20 6 = nI d := by rw [rI, if_neg (by omega)]; exact h5
    have k7 : ∀ j, j ≤ 4 → bt ((upI μ 20 8 0).1 20 7) j = c j := fun j hj => by rw [rI, if_neg (by omega)]; exact h6 j hj
    have k8 : (upI μ 20 8 0).1 20 8 = nI 0 := by rw [rI, if_pos ⟨rfl, rfl⟩]; rfl
    generalize upI μ 20 8 0 = μ2 at h1' h3' k2 k5 k6 k7 k8 ⊢
    have e41 : (nI x = 41) ↔ x = 41 := nI_eq (b := 41) (by omega) (by omega)
    have e126 : (nI x = 126) ↔ x = 126 := nI_eq (b := 126) (by omega) (by omega)
    have hrk : rkO x ≤ 4 := by
      unfold rkO
      have := brk_le x
      split <;> omega
    have r1 : (nI (rkO x) < 1) ↔ rkO x < 1 := nI_ltI (b := 1) (by omega) (by omega)
    have r2 : (nI (rkO x) = 1) ↔ rkO x = 1 := nI_eq (b := 1) (by omega) (by omega)
    rw [rk_c x hx]
    simp only [e41, e126, r1, r2]
    by_cases q2 : x = 41
    · simp only [q2, if_true, true_imp_iff, not_true_eq_false, false_imp_iff, and_true]
      unfold p_X5_close v_X5_close e_X5_close
      have l1 : ((1 : Int32) ≤ nI d) ↔ 1 ≤ d := nI_leI (a := 1) (by omega) (by omega)
      rw [k6]
      simp only [l1, forall_eq]
      by_cases y : 1 ≤ d
      · have n1 : nI 1 = 1 := rfl
        obtain ⟨m1, m2, m3, m4⟩ := C_emitW (r := 1) (by omega) (by omega) h1' h3' (by omega) i4
        rw [n1] at m1 m2 m3 m4
        have hdl : (dw 1 k).length ≤ 40 := by have := tdw 1 k; omega
        obtain ⟨p1, p2, p3⟩ := C_pop' m3 hdl
        simp only [y, if_true, true_imp_iff, o1, not_false_eq_true, true_and, reduceCtorEq, false_imp_iff, and_true]
        refine ⟨⟨m1, p1⟩, fun S' hS => ?_⟩
        cases hS
        generalize e_X5_emitWaiting 20 1 μ2 = μ3 at m2 m4 p2 p3 ⊢
        generalize e_X4_pop (20 + 3) μ3 = μ5 at p2 p3 ⊢
        have z : ∀ j, j ≠ 1 → μ5.1 20 j = μ2.1 20 j := fun j hj => by rw [p3.1 20 (by decide)]; exact m4 j hj
        refine ⟨(m2.fr p3 (by decide)).up (by omega), ?_, p2.up, ?_, ?_, fun j hj => ?_, ?_⟩
        · show (upI _ 20 6 _).1 20 2 = if 1004 ∈ o ++ (tw 1 k).map cdO then 1 else 0
          rw [rI, if_neg (by omega), z 2 (by omega)]
          simp only [Cr_tw (o := o) (k := k) (r := 1) (by omega)]
          exact k2
        · show (upI _ 20 6 _).1 20 5 = _
          rw [rI, if_neg (by omega), z 5 (by omega)]; exact k5
        · show (upI _ 20 6 _).1 20 6 = nI (d - 1)
          rw [rI, if_pos ⟨rfl, rfl⟩, z 6 (by omega), k6, show (1 : Int32) = nI 1 from rfl, nI_sub y]
        · show bt ((upI _ 20 6 _).1 20 7) j = _
          rw [rI, if_neg (by omega), z 7 (by omega)]; exact k7 j hj
        · show (upI _ 20 6 _).1 20 8 = _
          rw [rI, if_neg (by omega), z 8 (by omega)]; exact k8
      · simp only [y, if_false, false_imp_iff, reduceCtorEq, implies_true, and_true, true_imp_iff, true_and]
    · simp only [q2, if_false, false_imp_iff, true_and, not_false_eq_true, true_imp_iff]
      by_cases q3 : brk x = 0
      · simp only [q3, if_true, reduceCtorEq, false_imp_iff, implies_true, true_and, true_imp_iff]
        by_cases q4 : x = 126
        · have : ¬ rkO x < 1 := by rw [q4]; decide
          simp only [q4, if_true, not_true_eq_false, false_imp_iff, implies_true, true_and]
          exact ite_self _
        · have : rkO x < 1 := by unfold rkO; rw [if_neg q4]; omega
          simp only [this, if_true, not_true_eq_false, false_imp_iff, and_true]
      · have q4 : x ≠ 126 := fun y => q3 (by rw [y]; rfl)
        have er : rkO x = brk x := by unfold rkO; rw [if_neg q4]
        have b3 := brk_le x
        have r3 : ¬ brk x < 1 := by omega
        rw [er]
        have n31 : d < 31 := by omega
        rw [k6, isIn_b _ n31, k7 d (by omega)]
        have fin : ∀ μ13 : Mm, OuC o μ13 → PiC k μ13 → μ13.1 20 2 = (if 1004 ∈ o then 1 else 0) → μ13.1 20 6 = nI d → μ13.1 20 8 = nI 0 → ∀ c', (∀ j, j ≤ 4 → bt (μ13.1 20 7) j = c' j) → p_X5_emitWaiting 20 (nI (brk x)) μ13 ∧ p_X4_push (20 + 3) (nI x) (e_X5_emitWaiting 20 (nI (brk x)) μ13) ∧ McS (o ++ (tw (brk x) k).map cdO, x :: dw (brk x) k, true, d, c', 0) (upI (e_X4_push (20 + 3) (nI x) (e_X5_emitWaiting 20 (nI (brk x)) μ13)) 20 5 1) := by
          intro μ13 u1 u2 u3 u4 u5 c' u6
          obtain ⟨m1, m2, m3, m4⟩ := C_emitW (r := brk x) (by omega) (by omega) u1 u2 (by omega) i4
          have hdl : (dw (brk x) k).length ≤ 40 := by have := tdw (brk x) k; omega
          obtain ⟨p1, p2, p3⟩ := C_push (x := x) m3 hdl
          refine ⟨m1, p1, ?_⟩
          generalize e_X5_emitWaiting 20 (nI (brk x)) μ13 = μ15 at m2 m4 p2 p3 ⊢
          generalize e_X4_push (20 + 3) (nI x) μ15 = μ17 at p2 p3 ⊢
          have z : ∀ j, j ≠ 1 → μ17.1 20 j = μ13.1 20 j := fun j hj => by rw [p3.1 20 (by decide)]; exact m4 j hj
          refine ⟨(m2.fr p3 (by decide)).up (by omega), ?_, p2.up, ?_, ?_, fun j hj => ?_, ?_⟩
          · show (upI _ 20 5 _).1 20 2 = if 1004 ∈ o ++ (tw (brk x) k).map cdO then 1 else 0
            rw [rI, if_neg (by omega), z 2 (by omega)]
            simp only [Cr_tw (o := o) (k := k) (r := brk x) (by omega)]
            exact u3
          · show (upI _ 20 5 _).1 20 5 = _
            rw [rI, if_pos ⟨rfl, rfl⟩]; rfl
          · show (upI _ 20 5 _).1 20 6 = nI d
            rw [rI, if_neg (by omega), z 6 (by omega)]; exact u4
          · show bt ((upI _ 20 5 _).1 20 7) j = _
            rw [rI, if_neg (by omega), z 7 (by omega)]; exact u6 j hj
          · show (upI _ 20 5 _).1 20 8 = _
            rw [rI, if_neg (by omega), z 8 (by omega)]; exact u5
        simp only [q3, r3, q4, if_false, not_false_eq_true, true_imp_iff]
        by_cases q5 : brk x = 1
        · simp only [q5, if_true, true_imp_iff, not_true_eq_false, false_imp_iff, and_true, true_and]
          cases q6 : c d
          · simp only [Bool.false_eq_true, if_false, if_true, true_imp_iff, reduceCtorEq, false_imp_iff, and_true]
            obtain ⟨f1, f2, f3⟩ := fin (upI μ2 20 7 (μ2.1 20 7 ||| (1 <<< (nI d &&& 31)))) (h1'.up (by omega)) h3'.up (by rw [rI, if_neg (by omega)]; exact k2) (by rw [rI, if_neg (by omega)]; exact k6) (by rw [rI, if_neg (by omega)]; exact k8) (fun j => if j = d ∧ brk x = 1 then true else c j) (fun j hj => by
              rw [rI, if_pos ⟨rfl, rfl⟩, b_or, bt_one d (by omega) j (by omega), k7 j hj]
              by_cases z : j = d
              · rw [decide_eq_true z, if_pos ⟨z, q5⟩]; simp
              · rw [decide_eq_false z, if_neg (fun y => z y.1)]; simp)
            rw [q5] at f1 f2 f3
            refine ⟨⟨f1, f2⟩, fun S' hS => ?_⟩
            cases hS
            simp only [q5, and_true] at f3
            exact ⟨o1, f3⟩
          · simp only [if_true, o1, if_false, false_imp_iff, reduceCtorEq, implies_true, true_and, true_imp_iff]
        · obtain ⟨f1, f2, f3⟩ := fin μ2 h1' h3' k2 k6 k8 (fun j => if j = d ∧ brk x = 1 then true else c j) (fun j hj => by
            rw [if_neg (fun y => q5 y.2)]; exact k7 j hj)
          simp only [q5, false_and, if_false, false_imp_iff, true_and, not_false_eq_true, true_imp_iff, reduceCtorEq, and_true]
          refine ⟨⟨f1, f2⟩, fun S' hS => ?_⟩
          cases hS
          simp only [q5] at f3
          exact ⟨o1, f3⟩
end YE

/-! the model reads all of them -/
section LA
variable {T : List Nat} {e : Nat} {μ : Mm}
theorem sgS_eq (T : List Nat) (a e : Nat) : sgS T a e = (decide (a < e) && (decide (chT T a = 45) || decide (chT T a = 43))) := by
  unfold sgS wxO
  by_cases z : a < e
  · rw [if_pos z, decide_eq_true z, Bool.true_and]
    by_cases x : chT T a = 45
    · rw [show ([45, 43] : List Nat).length = 1 + 1 from rfl, ff_y (P := fun j => decide (([45, 43] : List Nat).getD j 0 = chT T a)) (decide_eq_true (by rw [x]; rfl)), decide_eq_true x]; rfl
    · have n0 : (fun j => decide (([45, 43] : List Nat).getD j 0 = chT T a)) 0 = false := decide_eq_false (fun y => x y.symm)
      rw [show ([45, 43] : List Nat).length = 1 + 1 from rfl, ff_n (P := fun j => decide (([45, 43] : List Nat).getD j 0 = chT T a)) n0, decide_eq_false x, Bool.false_or]
      by_cases y : chT T a = 43
      · rw [show (1 : Nat) = 0 + 1 from rfl, ff_y (P := fun j => decide (([45, 43] : List Nat).getD j 0 = chT T a)) (decide_eq_true (by rw [y]; rfl)), decide_eq_true y]; rfl
      · have n1 : (fun j => decide (([45, 43] : List Nat).getD j 0 = chT T a)) (0 + 1) = false := decide_eq_false (fun w => y w.symm)
        rw [ff_n (P := fun j => decide (([45, 43] : List Nat).getD j 0 = chT T a)) (i := 0 + 1) (k := 0) n1, decide_eq_false y]; rfl
  · rw [if_neg z, decide_eq_false z, Bool.false_and]; rfl
theorem bdL_is {room p : Nat} (hp : p ≤ e) (h1 : ∀ j, j < p → stL T room j = true) (h2 : p < e → stL T room p = false) : bdL T room e = p := by
  obtain ⟨f1, f2⟩ := ff_spec (fun i => !stL T room i) e 0
  unfold bdL
  cases ho : ff (fun i => !stL T room i) 0 e with
  | none =>
    show e = p
    rcases Nat.lt_or_ge p e with z | z
    · have := f2 ho p (by omega) (by omega); rw [h2 z] at this; exact absurd this (by decide)
    · omega
  | some s =>
    obtain ⟨-, c2, c3, c4⟩ := f1 s ho
    show s = p
    rcases Nat.lt_trichotomy s p with y | y | y
    · rw [h1 s y] at c3; exact absurd c3 (by decide)
    · exact y
    · have := c4 p (by omega) y; rw [h2 (by omega)] at this; exact absurd this (by decide)
theorem st0 {room k : Nat} : stL T room (4 * k) = (decide (k < room) && decide (49 ≤ chT T (4 * k) ∧ chT T (4 * k) ≤ 57)) := by
  unfold stL; rw [if_pos (by omega), show 4 * k / 4 = k by omega]
theorem st1 {room k : Nat} : stL T room (4 * k + 1) = (decide (chT T (4 * k + 1) = 43) || decide (chT T (4 * k + 1) = 45)) := by
  unfold stL; rw [if_neg (by omega), if_pos (by omega)]
theorem st2 {room k : Nat} : stL T room (4 * k + 2) = decide (48 ≤ chT T (4 * k + 2) ∧ chT T (4 * k + 2) ≤ 57) := by
  unfold stL; rw [if_neg (by omega), if_neg (by omega), if_pos (by omega)]
theorem st3 {room k : Nat} : stL T room (4 * k + 3) = decide (chT T (4 * k + 3) = 59) := by
  unfold stL; rw [if_neg (by omega), if_neg (by omega), if_neg (by omega)]
/-- where one line ends, or where it stops being one -/
theorem pt_ok {n k : Nat} (hnk : n + k ≤ 7) (hk : 4 * k ≤ e) (hs : ∀ j, j < 4 * k → stL T (7 - n) j = true) : (okO T n k (4 * k) e = true → ptO T n k (4 * k) e = 4 * k + 3 ∧ 4 * k + 3 ≤ e ∧ n + k ≠ 7 ∧ ∀ j, j < 4 * k + 3 → stL T (7 - n) j = true) ∧ (okO T n k (4 * k) e = false → bdL T (7 - n) e = ptO T n k (4 * k) e ∧ (bdL T (7 - n) e = e → e % 4 ≠ 3)) := by
  have i1 : isD T (4 * k) e 1 9 = (decide (4 * k < e) && decide (49 ≤ chT T (4 * k) ∧ chT T (4 * k) ≤ 57)) := rfl
  have i2 : isD T (4 * k + 2) e 0 9 = (decide (4 * k + 2 < e) && decide (48 ≤ chT T (4 * k + 2) ∧ chT T (4 * k + 2) ≤ 57)) := rfl
  have s1 := sgS_eq T (4 * k + 1) e
  have z0 := st0 (T := T) (room := 7 - n) (k := k)
  have z1 := st1 (T := T) (room := 7 - n) (k := k)
  have z2 := st2 (T := T) (room := 7 - n) (k := k)
  unfold okO ptO
  by_cases q : n + k = 7
  · rw [if_pos q, decide_eq_false (fun y => y q), Bool.false_and]
    refine ⟨fun y => absurd y (by decide), fun _ => ?_⟩
    have := bdL_is (T := T) (room := 7 - n) hk hs (fun _ => by rw [z0, decide_eq_false (by omega), Bool.false_and])
    exact ⟨this, fun y => by omega⟩
  · rw [if_neg q, decide_eq_true (show n + k ≠ 7 from q), Bool.true_and]
    cases b1 : isD T (4 * k) e 1 9
    · rw [Bool.false_and]
      refine ⟨fun y => absurd y (by decide), fun _ => ?_⟩
      have := bdL_is (T := T) (room := 7 - n) hk hs (fun y => by
        rw [b1, decide_eq_true y, Bool.true_and] at i1
        rw [z0, ← i1, Bool.and_false])
      exact ⟨by simpa using this, fun y => by omega⟩
    · have h0 : 4 * k < e ∧ stL T (7 - n) (4 * k) = true := by
        rw [b1] at i1
        have i1' := i1.symm
        simp only [Bool.and_eq_true, decide_eq_true_eq] at i1'
        exact ⟨i1'.1, by rw [z0, decide_eq_true (by omega), decide_eq_true i1'.2]; rfl⟩
      have hs1 : ∀ j, j < 4 * k + 1 → stL T (7 - n) j = true := fun j hj => by
        by_cases w : j = 4 * k
        · rw [w]; exact h0.2
        · exact hs j (by omega)
      rw [Bool.true_and, if_pos rfl]
      cases b2 : sgS T (4 * k + 1) e
      · rw [Bool.false_and]
        refine ⟨fun y => absurd y (by decide), fun _ => ?_⟩
        have := bdL_is (T := T) (room := 7 - n) (e := e) (p := 4 * k + 1) (by omega) hs1 (fun y => by
          rw [b2, decide_eq_true y, Bool.true_and] at s1
          rw [z1, Bool.or_comm, ← s1])
        exact ⟨by simpa using this, fun y => by omega⟩
      · have h1 : 4 * k + 1 < e ∧ stL T (7 - n) (4 * k + 1) = true := by
          rw [b2] at s1
          have s1' := s1.symm
          rw [Bool.and_eq_true, decide_eq_true_eq] at s1'
          exact ⟨s1'.1, by rw [z1, Bool.or_comm]; exact s1'.2⟩
        have hs2 : ∀ j, j < 4 * k + 2 → stL T (7 - n) j = true := fun j hj => by
          by_cases w : j = 4 * k + 1
          · rw [w]; exact h1.2
          · exact hs1 j (by omega)
        rw [Bool.true_and, if_pos rfl]
        cases b3 : isD T (4 * k + 2) e 0 9
        · refine ⟨fun y => absurd y (by decide), fun _ => ?_⟩
          have := bdL_is (T := T) (room := 7 - n) (e := e) (p := 4 * k + 2) (by omega) hs2 (fun y => by
            rw [b3, decide_eq_true y, Bool.true_and] at i2
            rw [z2, ← i2])
          exact ⟨by simpa using this, fun y => by omega⟩
        · rw [b3] at i2
          have i2' := i2.symm
          simp only [Bool.and_eq_true, decide_eq_true_eq] at i2'
          refine ⟨fun _ => ⟨by rw [if_pos rfl], by omega, q, fun j hj => ?_⟩, fun y => absurd y (by decide)⟩
          by_cases w : j = 4 * k + 2
          · rw [w, z2, decide_eq_true i2'.2]
          · exact hs2 j (by omega)
end LA

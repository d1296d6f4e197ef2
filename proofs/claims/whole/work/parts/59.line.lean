/-! people: the fault -/
section LF
variable {T : List Nat} {e : Nat} {μ : Mm}
/-- what the model answers of a text that doesn't stand, or 0 -/
theorem M_fault {room : Nat} (hl : 0 < T.length) (hl2 : T.length ≤ 80) (he : e = min 27 T.length) (hr : Rd T (bdL T room e) e μ) {b : Int32} (hb : if gdL T room e then b = 1 else b = 0 ∨ bdL T room e ≠ e) : v_X12_faultOf (nI T.length) 27 b μ = if gdL T room e && decide (T.length ≤ 27) then 0 else -1 - nI (bdL T room e) := by
  obtain ⟨h1, h2, h3, h4, h5, -⟩ := hr
  have g27 : (nI T.length ≤ 27) ↔ T.length ≤ 27 := nI_leI (b := 27) (by omega) (by omega)
  have gl : (nI (bdL T room e) < 27) ↔ bdL T room e < 27 := nI_ltI (b := 27) (by omega) (by omega)
  have ge : (nI (bdL T room e) = nI e) ↔ bdL T room e = e := nI_eq (by omega) (by omega)
  have n27 : nI 27 = 27 := rfl
  unfold v_X12_faultOf
  rw [h4, h5]
  simp only [g27, gl, ge]
  have hx : (if b = 0 then (0 : Int32) else if bdL T room e = e then 1 else 0) = if gdL T room e then 1 else 0 := by
    cases q : gdL T room e
    · rw [q] at hb
      rcases hb with hb | hb
      · rw [if_pos hb]; rfl
      · by_cases w : b = 0
        · rw [if_pos w]; rfl
        · rw [if_neg w, if_neg hb]; rfl
    · rw [q] at hb
      have hb' : b = 1 := hb
      unfold gdL at q
      simp only [Bool.and_eq_true, decide_eq_true_eq] at q
      rw [hb', if_neg (by decide), if_pos q.1]; rfl
  rw [hx]
  simp only [one0]
  by_cases w : T.length ≤ 27
  · rw [if_pos w, decide_eq_true w, Bool.and_true]
    generalize (-1 : Int32) - nI (bdL T room e) = vv
    cases gdL T room e
    · simp only [Bool.false_eq_true, not_false_eq_true, if_true, if_false]
    · simp only [not_true_eq_false, if_true, if_false]
  · rw [if_neg w, decide_eq_false w, Bool.and_false]
    cases q : gdL T room e
    · simp only [Bool.false_eq_true, not_false_eq_true, if_true, if_false]
      by_cases y : bdL T room e < 27
      · rw [if_pos y]
      · rw [if_neg y, show bdL T room e = 27 by omega, n27]
    · unfold gdL at q
      simp only [Bool.and_eq_true, decide_eq_true_eq] at q
      simp only [not_true_eq_false, Bool.false_eq_true, if_false]
      rw [show bdL T room e = 27 by omega, n27]
end LF

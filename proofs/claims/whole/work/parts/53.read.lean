/-! numbers and signs -/
section RE
variable {T : List Nat} {a e : Nat} {μ : Mm}
theorem R_isDigit (h : Rd T a e μ) (hT : ∀ i, chT T i < 256) : p_X12_isDigit μ ∧ v_X12_isDigit μ = if isD T a e 0 9 then 1 else 0 := by
  unfold p_X12_isDigit v_X12_isDigit isD
  simp only [h.le]
  rcases Nat.lt_or_ge a e with z | z
  · obtain ⟨c1, c2⟩ := h.ch z
    have hTa := hT a
    have s48 : (48 : Int64).toInt = 48 := by decide +kernel
    have s57 : (57 : Int64).toInt = 57 := by decide +kernel
    have e3 : inB (nI (chT T a)) 48 57 = decide (48 + 0 ≤ chT T a ∧ chT T a ≤ 48 + 9) := by
      unfold inB
      rw [nI_toInt (by omega)]
      exact decide_eq_decide.mpr (by omega)
    rw [c1, if_neg (show ¬ e ≤ a by omega), in_B s48 s57, e3, decide_eq_true z, Bool.true_and]
    refine ⟨fun _ => c2, ?_⟩
    simp only [one0]
    cases decide (48 + 0 ≤ chT T a ∧ chT T a ≤ 48 + 9) <;> rfl
  · rw [if_pos z, decide_eq_false (show ¬ a < e by omega), Bool.false_and]
    exact ⟨fun y => absurd z y, rfl⟩
theorem R_number1 (h : Rd T a e μ) (hT : ∀ i, chT T i < 256) : p_X12_number 1 μ ∧ v_X12_number 1 μ = (if isD T a e 0 9 then nI (chT T a) - 48 else -1) ∧ Rd T (if isD T a e 0 9 then a + 1 else a) e (e_X12_number 1 μ) := by
  obtain ⟨d1, d2⟩ := R_isDigit h hT
  unfold p_X12_number v_X12_number e_X12_number
  rw [d2]
  simp only [one0]
  cases q : isD T a e 0 9
  · simp only [Bool.false_eq_true, not_false_eq_true, if_true, if_false]
    exact ⟨⟨d1, fun y => absurd trivial y⟩, trivial, h⟩
  · simp only [not_true_eq_false, if_false, if_true, not_false_eq_true, true_imp_iff]
    have hz : a < e := by
      unfold isD at q
      simp only [Bool.and_eq_true, decide_eq_true_eq] at q
      exact q.1
    obtain ⟨c1, c2⟩ := h.ch hz
    have ev : (10 : Int32) * 0 + nI (chT T a) - 48 = nI (chT T a) - 48 := by rw [show (10 : Int32) * 0 = 0 from by decide, Int32.zero_add]
    have key := lpI (f := fun s : Int32 × Int32 × Int32 × Mm => bd_X12_number_13 s.1 s.2.1 s.2.2.1 s.2.2.2) (sd := fun s : Int32 × Int32 × Int32 × Mm => sd_X12_number_13 s.1 s.2.1 s.2.2.1 s.2.2.2) (dd := fun s : Int32 × Int32 × Int32 × Mm => (0, s.2.2.2)) (I := fun i s => (i = 0 ∧ s = (1, 0, 0, μ)) ∨ (i = 1 ∧ ∃ μ', s = (1, nI (chT T a) - 48, 1, μ') ∧ Rd T (a + 1) e μ')) (R := fun z : Int32 × Mm => z.1 = nI (chT T a) - 48 ∧ Rd T (a + 1) e z.2) 1 (by omega) ?_ (s0 := (1, 0, 0, μ)) (.inl ⟨rfl, rfl⟩)
    · exact ⟨⟨d1, key.1⟩, key.2⟩
    · rintro i _ hi (⟨rfl, rfl⟩ | ⟨rfl, μ', rfl, h'⟩)
      · dsimp only
        unfold sd_X12_number_13 bd_X12_number_13
        rw [if_neg (show ¬ ((1 : Int32) ≤ 0) by decide), d2, c1, q]
        simp only [if_true]
        rw [if_neg (show ¬ ((1 : Int32) = 0) by decide), ev]
        refine ⟨fun _ => ⟨d1, fun _ => c2⟩, .inl ⟨_, rfl, by omega, .inr ⟨trivial, _, rfl, ?_⟩⟩⟩
        rw [h.2.2.2.1, nI_1]
        exact h.adv hz
      · dsimp only
        unfold sd_X12_number_13 bd_X12_number_13
        rw [if_pos (show (1 : Int32) ≤ 1 by decide)]
        exact ⟨fun y => absurd (by decide) y, .inr ⟨_, rfl, rfl, h'⟩⟩
/-- a text of signs, as the model holds it -/
def TxW (p : Nat) (W : List Nat) : Prop := v_J0_length_8abf5 p = nI W.length ∧ W.length ≤ 100 ∧ ∀ j, j < W.length → v_J0_charAt_5068e p (nI j) = nI (W.getD j 0) ∧ p_J0_charAt_5068e p (nI j) ∧ W.getD j 0 < 256
def wxO (W T : List Nat) (a e : Nat) : Option Nat := if a < e then ff (fun j => decide (W.getD j 0 = chT T a)) 0 W.length else none
def wxI (o : Option Nat) : Int32 := match o with
  | some j => nI j
  | none => -1
theorem R_takesOf {p : Nat} {W : List Nat} (hW : TxW p W) (h : Rd T a e μ) (hT : ∀ i, chT T i < 256) : p_X12_takesOf p μ ∧ v_X12_takesOf p μ = wxI (wxO W T a e) ∧ Rd T (if (wxO W T a e).isSome then a + 1 else a) e (e_X12_takesOf p μ) := by
  obtain ⟨w1, w2, w3⟩ := hW
  unfold p_X12_takesOf v_X12_takesOf e_X12_takesOf
  have hTa := hT a
  refine lpI (f := fun s : Int32 × Mm => bd_X12_takesOf_2 p s.1 s.2) (I := fun j s => j ≤ W.length ∧ s = (nI j, μ) ∧ (a < e → ff (fun j => decide (W.getD j 0 = chT T a)) j (W.length - j) = wxO W T a e)) (R := fun z : Int32 × Mm => z.1 = wxI (wxO W T a e) ∧ Rd T (if (wxO W T a e).isSome then a + 1 else a) e z.2) W.length (by omega) ?_ (s0 := (0, μ)) ⟨Nat.zero_le _, rfl, fun z => by unfold wxO; rw [if_pos z]; rfl⟩
  rintro j _ hj ⟨hj2, rfl, hf⟩
  dsimp only
  unfold sd_X12_takesOf_2 bd_X12_takesOf_2
  rw [w1]
  simp only [nI_leI (show W.length < 2 ^ 31 by omega) (show j < 2 ^ 31 by omega), h.le]
  rcases Nat.lt_or_ge a e with z | z
  · obtain ⟨c1, c2⟩ := h.ch z
    rcases Nat.lt_or_ge j W.length with y | y
    · obtain ⟨x1, x2, x3⟩ := w3 j y
      rw [if_neg (show ¬ W.length ≤ j by omega), if_neg (show ¬ e ≤ a by omega), x1, c1]
      simp only [nI_eq (show W.getD j 0 < 2 ^ 31 by omega) (show chT T a < 2 ^ 31 by omega)]
      have hf' := hf z
      rw [show W.length - j = (W.length - j - 1) + 1 by omega] at hf'
      refine ⟨fun _ _ => ⟨x2, c2⟩, ?_⟩
      by_cases q : W.getD j 0 = chT T a
      · rw [if_pos q]
        rw [ff_y (P := fun j => decide (W.getD j 0 = chT T a)) (decide_eq_true q)] at hf'
        rw [← hf', h.2.2.2.1, nI_1]
        exact .inr ⟨_, rfl, rfl, h.adv z⟩
      · rw [if_neg q, nI_1]
        rw [ff_n (P := fun j => decide (W.getD j 0 = chT T a)) (decide_eq_false q)] at hf'
        exact .inl ⟨_, rfl, y, y, rfl, fun _ => by rw [show W.length - (j + 1) = W.length - j - 1 by omega]; exact hf'⟩
    · rw [if_pos y]
      have hf' := hf z
      rw [show W.length - j = 0 by omega] at hf'
      have h0 : wxO W T a e = none := hf'.symm
      rw [h0]
      exact ⟨fun x => absurd y x, .inr ⟨_, rfl, rfl, h⟩⟩
  · have h0 : wxO W T a e = none := by unfold wxO; rw [if_neg (by omega)]
    rw [h0]
    rcases Nat.lt_or_ge j W.length with y | y
    · rw [if_neg (show ¬ W.length ≤ j by omega), if_pos z]
      exact ⟨fun _ x => absurd z x, .inr ⟨_, rfl, rfl, h⟩⟩
    · rw [if_pos y]
      exact ⟨fun x => absurd y x, .inr ⟨_, rfl, rfl, h⟩⟩
end RE

/-! lines of people: where the text stops being one (class) -/
def stL (T : List Nat) (room i : Nat) : Bool :=
  if i % 4 = 0 then decide (i / 4 < room) && decide (49 ≤ chT T i ∧ chT T i ≤ 57)
  else if i % 4 = 1 then decide (chT T i = 43) || decide (chT T i = 45)
  else if i % 4 = 2 then decide (48 ≤ chT T i ∧ chT T i ≤ 57)
  else decide (chT T i = 59)
def bdL (T : List Nat) (room e : Nat) : Nat := (ff (fun i => !stL T room i) 0 e).getD e
section LI
variable {T : List Nat} {μ : Mm}
theorem C_at (h : TxC T μ) (hT : ∀ i, chT T i < 256) {i : Nat} (hi : i < T.length) : p_X9_at (nI i) μ ∧ v_X9_at (nI i) μ = nI (chT T i) := by
  obtain ⟨h1, h2, h3⟩ := h
  unfold p_X9_at v_X9_at
  rw [h2, if_neg (nI_pos (by omega)), if_neg (nI_ge hi (by omega)), nI_clamp (by omega), h3 i hi]
  exact ⟨⟨fun _ _ => vp_in_nI (by omega) (by omega), nar_c _ (hT i)⟩, rfl⟩
theorem isDig (c : Nat) (hc : c < 256) : v_X9_isDigit (nI c) = if 48 ≤ c ∧ c ≤ 57 then 1 else 0 := by
  revert c
  decide +kernel
theorem nI_d4 : ∀ i, i < 200 → nI i / 4 = nI (i / 4) ∧ nI i - nI i / 4 * 4 = nI (i % 4) := by decide +kernel
theorem C_stands (h : TxC T μ) (hT : ∀ i, chT T i < 256) {i room : Nat} (hi : i < T.length) (hr : room < 100) : p_X9_standsInLine (nI i) (nI room) μ ∧ v_X9_standsInLine (nI i) (nI room) μ = if stL T room i then 1 else 0 := by
  obtain ⟨a1, a2⟩ := C_at h hT hi
  have hl := h.1
  have hc := hT i
  obtain ⟨d1, d2⟩ := nI_d4 i (by omega)
  refine ⟨a1, ?_⟩
  unfold v_X9_standsInLine stL
  have e0 : (nI (i % 4) = 0) ↔ i % 4 = 0 := nI_eq (b := 0) (by omega) (by omega)
  have e1 : (nI (i % 4) = 1) ↔ i % 4 = 1 := nI_eq (b := 1) (by omega) (by omega)
  have e2 : (nI (i % 4) = 2) ↔ i % 4 = 2 := nI_eq (b := 2) (by omega) (by omega)
  have c48 : (nI (chT T i) = 48) ↔ chT T i = 48 := nI_eq (b := 48) (by omega) (by omega)
  have c43 : (nI (chT T i) = 43) ↔ chT T i = 43 := nI_eq (b := 43) (by omega) (by omega)
  have c45 : (nI (chT T i) = 45) ↔ chT T i = 45 := nI_eq (b := 45) (by omega) (by omega)
  have c59 : (nI (chT T i) = 59) ↔ chT T i = 59 := nI_eq (b := 59) (by omega) (by omega)
  rw [d2, d1, a2, isDig _ hc]
  simp only [e0, e1, e2, c48, c43, c45, c59, nI_leI (show room < 2 ^ 31 by omega) (show i / 4 < 2 ^ 31 by omega), one0]
  by_cases q0 : i % 4 = 0
  · rw [if_pos q0, if_pos q0]
    by_cases r : room ≤ i / 4
    · rw [if_pos r, decide_eq_false (by omega)]; rfl
    · rw [if_neg r, decide_eq_true (by omega), Bool.true_and]
      by_cases d : 48 ≤ chT T i ∧ chT T i ≤ 57
      · rw [if_neg (fun y => y d)]
        by_cases z : chT T i = 48
        · rw [if_pos z, decide_eq_false (by omega)]; rfl
        · rw [if_neg z, decide_eq_true (by omega)]; rfl
      · rw [if_pos d, decide_eq_false (by omega)]; rfl
  · rw [if_neg q0, if_neg q0]
    by_cases q1 : i % 4 = 1
    · rw [if_pos q1, if_pos q1]
      by_cases x : chT T i = 43
      · simp [x]
      · by_cases y : chT T i = 45 <;> simp [x, y]
    · rw [if_neg q1, if_neg q1]
      by_cases q2 : i % 4 = 2
      · rw [if_pos q2, if_pos q2]
        by_cases d : 48 ≤ chT T i ∧ chT T i ≤ 57
        · rw [if_pos d, decide_eq_true d]; rfl
        · rw [if_neg d, decide_eq_false d]; rfl
      · rw [if_neg q2, if_neg q2]
        by_cases x : chT T i = 59
        · simp [x]
        · simp [x]
theorem C_badLine (h : TxC T μ) (hT : ∀ i, chT T i < 256) {room : Nat} (hr : room < 100) : p_X9_badLineSign (nI room) μ ∧ v_X9_badLineSign (nI room) μ = (if T.length = 0 then -1 else if bdL T room (min 27 T.length) < min 27 T.length then nI (bdL T room (min 27 T.length)) else if T.length ≤ 27 ∧ T.length % 4 = 3 then -1 else nI (min 27 T.length)) := by
  have hl := h.1
  unfold p_X9_badLineSign v_X9_badLineSign
  have g0 : (nI T.length = 0) ↔ T.length = 0 := nI_eq (b := 0) (by omega) (by omega)
  have g27 : ((27 : Int32) < nI T.length) ↔ 27 < T.length := nI_ltI (a := 27) (by omega) (by omega)
  have em : (if (27 : Int32) < nI T.length then 27 else nI T.length) = nI (min 27 T.length) := by
    by_cases q : 27 < T.length
    · rw [if_pos (g27.mpr q), show min 27 T.length = 27 by omega]; rfl
    · rw [if_neg (fun y => q (g27.mp y)), show min 27 T.length = T.length by omega]
  rw [h.2.1, em]
  simp only [g0]
  by_cases q : T.length = 0
  · rw [if_pos q, if_pos q]; exact ⟨fun y => absurd q y, rfl⟩
  · rw [if_neg q, if_neg q]
    obtain ⟨f1, f2⟩ := ff_spec (fun i => !stL T room i) (min 27 T.length) 0
    have key := lpI (f := fun s : Int32 × Int32 × Int32 => bd_X9_badLineSign_21 μ s.1 s.2.1 s.2.2) (sd := fun s : Int32 × Int32 × Int32 => sd_X9_badLineSign_21 μ s.1 s.2.1 s.2.2) (dd := fun _ : Int32 × Int32 × Int32 => 0) (I := fun i s => i ≤ min 27 T.length ∧ s = (nI room, nI (min 27 T.length), nI i) ∧ ∀ j, j < i → stL T room j = true) (R := fun z => z = (if bdL T room (min 27 T.length) < min 27 T.length then nI (bdL T room (min 27 T.length)) else if T.length ≤ 27 ∧ T.length % 4 = 3 then -1 else nI (min 27 T.length))) (min 27 T.length) (by omega) ?_ (s0 := (nI room, nI (min 27 T.length), 0)) ⟨Nat.zero_le _, rfl, fun j hj => absurd hj (by omega)⟩
    · exact ⟨fun _ => key.1, key.2⟩
    · rintro i _ hi ⟨hi2, rfl, hg⟩
      dsimp only
      unfold sd_X9_badLineSign_21 bd_X9_badLineSign_21
      rw [h.2.1]
      simp only [nI_leI (show min 27 T.length < 2 ^ 31 by omega) (show i < 2 ^ 31 by omega), nI_ltI (show min 27 T.length < 2 ^ 31 by omega) (show T.length < 2 ^ 31 by omega), nI_1]
      rcases Nat.lt_or_ge i (min 27 T.length) with z | z
      · obtain ⟨s1, s2⟩ := C_stands h hT (i := i) (room := room) (by omega) hr
        rw [if_neg (show ¬ min 27 T.length ≤ i by omega), s2]
        simp only [one0]
        refine ⟨fun _ => s1, ?_⟩
        cases b : stL T room i
        · have eb : bdL T room (min 27 T.length) = i := by
            unfold bdL
            cases ho : ff (fun i => !stL T room i) 0 (min 27 T.length) with
            | none => have := f2 ho i (by omega) (by omega); rw [b] at this; exact absurd this (by decide)
            | some s =>
              obtain ⟨-, c2, c3, c4⟩ := f1 s ho
              show s = i
              rcases Nat.lt_trichotomy s i with y | y | y
              · rw [hg s y] at c3; exact absurd c3 (by decide)
              · exact y
              · have := c4 i (by omega) y; rw [b] at this; exact absurd this (by decide)
          rw [eb, if_pos z]
          exact .inr ⟨_, rfl, rfl⟩
        · rw [if_neg (by decide)]
          refine .inl ⟨_, rfl, z, z, rfl, fun j hj => ?_⟩
          by_cases e : j = i
          · rw [e]; exact b
          · exact hg j (by omega)
      · have e : i = min 27 T.length := by omega
        have eb : bdL T room (min 27 T.length) = min 27 T.length := by
          unfold bdL
          cases ho : ff (fun i => !stL T room i) 0 (min 27 T.length) with
          | none => rfl
          | some s =>
            obtain ⟨-, c2, c3, c4⟩ := f1 s ho
            rw [hg s (by omega)] at c3; exact absurd c3 (by decide)
        rw [if_pos z, eb, if_neg (Nat.lt_irrefl _)]
        refine ⟨fun y => absurd z y, .inr ⟨_, rfl, ?_⟩⟩
        obtain ⟨d1, d2⟩ := nI_d4 (min 27 T.length) (by omega)
        have e3 : (nI (min 27 T.length % 4) = 3) ↔ min 27 T.length % 4 = 3 := nI_eq (b := 3) (by omega) (by omega)
        rw [d2]
        simp only [e3]
        by_cases y : min 27 T.length < T.length
        · rw [if_pos y, if_neg (by omega)]
        · have em2 : min 27 T.length = T.length := by omega
          rw [if_neg y, em2]
          by_cases w : T.length % 4 = 3
          · rw [if_pos w, if_pos ⟨by omega, w⟩]
          · rw [if_neg w, if_neg (fun x => w x.2)]
end LI

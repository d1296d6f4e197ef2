/-! the signs of a morning -/
def aln (c : Nat) : Nat := if c = 108 then 4 else if c = 110 then 2 else if c = 111 then 2 else if c = 115 then 3 else if c = 116 then 4 else 1
def kdA (c : Nat) : Option Nat := if c = 110 then some 0 else if c = 111 then some 1 else if c = 115 then some 2 else if c = 108 then some 3 else if c = 116 then some 4 else none
def sA (T : List Nat) : Nat → Nat
  | 0 => 0
  | k + 1 => sA T k + aln (chT T (sA T k))
def stA (T : List Nat) (a i : Nat) : Bool := if i = a then decide (1 < aln (chT T a)) else if i = a + 2 ∧ chT T a = 108 then decide (chT T i = 101 ∨ chT T i = 119) else if i = a + 2 ∧ chT T a = 116 then decide (chT T i = 43 ∨ chT T i = 45) else decide (48 ≤ chT T i ∧ chT T i ≤ 57)
theorem aln_rg (c : Nat) : 1 ≤ aln c ∧ aln c ≤ 4 := by
  unfold aln
  (repeat' split) <;> omega
theorem sA_s (T : List Nat) (k : Nat) : sA T (k + 1) = sA T k + aln (chT T (sA T k)) := rfl
theorem sA_lt (T : List Nat) (k : Nat) : sA T k < sA T (k + 1) := by
  have := aln_rg (chT T (sA T k))
  rw [sA_s]; omega
theorem sA_mono {T : List Nat} {k : Nat} : ∀ {j : Nat}, k ≤ j → sA T k ≤ sA T j
  | 0, h => by rw [show k = 0 by omega]; exact Nat.le_refl _
  | j + 1, h => by
    by_cases e : k = j + 1
    · rw [e]; exact Nat.le_refl _
    · have := sA_mono (T := T) (k := k) (j := j) (by omega)
      have := sA_lt T j
      omega
theorem sA_ge (T : List Nat) : ∀ k, k ≤ sA T k
  | 0 => Nat.zero_le _
  | k + 1 => by
    have := sA_ge T k
    have := sA_lt T k
    omega
theorem sA_uq {T : List Nat} {i j p : Nat} (h1 : sA T i ≤ p) (h2 : p < sA T (i + 1)) (h3 : sA T j ≤ p) (h4 : p < sA T (j + 1)) : i = j := by
  rcases Nat.lt_trichotomy i j with y | y | y
  · have := sA_mono (T := T) (k := i + 1) (j := j) y; omega
  · exact y
  · have := sA_mono (T := T) (k := j + 1) (j := i) y; omega
/-- all signs ahead of b stand, b doesn't or is the end; act k is at hand there -/
def VdA (T : List Nat) (b : Nat) : Prop := ∀ i j, j < b → sA T i ≤ j → j < sA T (i + 1) → stA T (sA T i) j = true
def EnA (T : List Nat) (e b k : Nat) : Prop := b ≤ e ∧ sA T k ≤ b ∧ b < sA T (k + 1) ∧ VdA T b ∧ (b < e → stA T (sA T k) b = false)
theorem EnA_uq {T : List Nat} {e b k b' k' : Nat} (h : EnA T e b k) (h' : EnA T e b' k') : b = b' ∧ k = k' := by
  obtain ⟨a1, a2, a3, a4, a5⟩ := h
  obtain ⟨b1, b2, b3, b4, b5⟩ := h'
  have e : b = b' := by
    rcases Nat.lt_trichotomy b b' with y | y | y
    · have h1 := b4 k b y a2 a3
      rw [a5 (by omega)] at h1; exact absurd h1 (by decide)
    · exact y
    · have h1 := a4 k' b' y b2 b3
      rw [b5 (by omega)] at h1; exact absurd h1 (by decide)
  subst e
  exact ⟨rfl, sA_uq a2 a3 b2 b3⟩
theorem VdA_s {T : List Nat} {i k : Nat} (h : VdA T i) (h1 : sA T k ≤ i) (h2 : i < sA T (k + 1)) (h3 : stA T (sA T k) i = true) : VdA T (i + 1) := by
  intro i' j hj g1 g2
  by_cases e : j = i
  · subst e
    rw [sA_uq g1 g2 h1 h2]; exact h3
  · exact h i' j (by omega) g1 g2
/-- all of an act's signs that come -/
theorem VdA_to {T : List Nat} {k b : Nat} (h : VdA T (sA T k)) (hb : sA T k ≤ b) (hb2 : b ≤ sA T (k + 1)) (h3 : ∀ j, sA T k ≤ j → j < b → stA T (sA T k) j = true) : VdA T b := by
  intro i' j hj g1 g2
  rcases Nat.lt_or_ge j (sA T k) with y | y
  · exact h i' j y g1 g2
  · rw [sA_uq g1 g2 y (by omega)]; exact h3 j y hj
theorem actLen (c : Nat) (hc : c < 256) : v_X9_actLength (nI c) = nI (aln c) := by
  revert c
  decide +kernel
theorem kdA_x (c : Nat) (hc : c < 256) : ff (fun j => decide (([110, 111, 115, 108, 116] : List Nat).getD j 0 = c)) 0 5 = kdA c := by
  revert c
  decide +kernel
section AC
variable {T : List Nat} {μ : Mm}
theorem C_standsA (h : TxC T μ) (hT : ∀ i, chT T i < 256) {a i : Nat} (hi : i < T.length) (ha : a ≤ i) : p_X9_standsInAct (nI a) (nI i) μ ∧ v_X9_standsInAct (nI a) (nI i) μ = if stA T a i then 1 else 0 := by
  obtain ⟨a1, a2⟩ := C_at h hT (i := a) (by omega)
  obtain ⟨b1, b2⟩ := C_at h hT (i := i) hi
  have hl := h.1
  have ca := hT a
  have ci := hT i
  refine ⟨⟨a1, b1⟩, ?_⟩
  unfold v_X9_standsInAct stA
  have n2 : nI a + 2 = nI (a + 2) := by rw [show (2 : Int32) = nI 2 from rfl, nI_add]
  have ar := aln_rg (chT T a)
  rw [a2, b2, n2, isDig _ ci, actLen _ ca]
  have e1 : (nI i = nI a) ↔ i = a := nI_eq (by omega) (by omega)
  have e2 : (nI i = nI (a + 2)) ↔ i = a + 2 := nI_eq (by omega) (by omega)
  have e3 : (nI (aln (chT T a)) ≤ 1) ↔ aln (chT T a) ≤ 1 := nI_leI (b := 1) (by omega) (by omega)
  have c108 : (nI (chT T a) = 108) ↔ chT T a = 108 := nI_eq (b := 108) (by omega) (by omega)
  have c116 : (nI (chT T a) = 116) ↔ chT T a = 116 := nI_eq (b := 116) (by omega) (by omega)
  have c101 : (nI (chT T i) = 101) ↔ chT T i = 101 := nI_eq (b := 101) (by omega) (by omega)
  have c119 : (nI (chT T i) = 119) ↔ chT T i = 119 := nI_eq (b := 119) (by omega) (by omega)
  have c43 : (nI (chT T i) = 43) ↔ chT T i = 43 := nI_eq (b := 43) (by omega) (by omega)
  have c45 : (nI (chT T i) = 45) ↔ chT T i = 45 := nI_eq (b := 45) (by omega) (by omega)
  simp only [e1, e2, e3, c108, c116, c101, c119, c43, c45]
  by_cases q0 : i = a
  · rw [if_pos q0, if_pos q0]
    by_cases y : aln (chT T a) ≤ 1
    · rw [if_pos y, decide_eq_false (by omega)]; rfl
    · rw [if_neg y, decide_eq_true (by omega)]; rfl
  · rw [if_neg q0, if_neg q0]
    by_cases q2 : i = a + 2
    · rw [if_pos q2]
      by_cases x : chT T a = 108
      · rw [if_pos x, if_pos (show i = a + 2 ∧ chT T a = 108 from ⟨q2, x⟩)]
        by_cases y : chT T i = 101
        · rw [if_pos y, decide_eq_true (.inl y)]; rfl
        · rw [if_neg y]
          by_cases w : chT T i = 119
          · rw [if_pos w, decide_eq_true (.inr w)]; rfl
          · rw [if_neg w, decide_eq_false (by omega)]; rfl
      · rw [if_neg x, if_neg (show ¬ (i = a + 2 ∧ chT T a = 108) from fun y => x y.2)]
        by_cases x2 : chT T a = 116
        · rw [if_pos x2, if_pos (show i = a + 2 ∧ chT T a = 116 from ⟨q2, x2⟩)]
          by_cases y : chT T i = 43
          · rw [if_pos y, decide_eq_true (.inl y)]; rfl
          · rw [if_neg y]
            by_cases w : chT T i = 45
            · rw [if_pos w, decide_eq_true (.inr w)]; rfl
            · rw [if_neg w, decide_eq_false (by omega)]; rfl
        · rw [if_neg x2, if_neg (show ¬ (i = a + 2 ∧ chT T a = 116) from fun y => x2 y.2)]
          simp only [decide_eq_true_eq]
    · rw [if_neg q2, if_neg (show ¬ (i = a + 2 ∧ chT T a = 108) from fun y => q2 y.1), if_neg (show ¬ (i = a + 2 ∧ chT T a = 116) from fun y => q2 y.1)]
      simp only [decide_eq_true_eq]
theorem C_badAct (h : TxC T μ) (hT : ∀ i, chT T i < 256) : p_X9_badActSign μ ∧ ∃ b k, EnA T (min 60 T.length) b k ∧ v_X9_badActSign μ = if b < min 60 T.length then nI b else if T.length ≤ 60 ∧ sA T k = T.length then -1 else nI (min 60 T.length) := by
  have hl := h.1
  unfold p_X9_badActSign v_X9_badActSign
  have g60 : ((60 : Int32) < nI T.length) ↔ 60 < T.length := nI_ltI (a := 60) (by omega) (by omega)
  have em : (if (60 : Int32) < nI T.length then 60 else nI T.length) = nI (min 60 T.length) := by
    by_cases q : 60 < T.length
    · rw [if_pos (g60.mpr q), show min 60 T.length = 60 by omega]; rfl
    · rw [if_neg (fun y => q (g60.mp y)), show min 60 T.length = T.length by omega]
  rw [h.2.1, em]
  refine lpI (f := fun s : Int32 × Int32 × Int32 => bd_X9_badActSign_14 μ s.1 s.2.1 s.2.2) (sd := fun s : Int32 × Int32 × Int32 => sd_X9_badActSign_14 μ s.1 s.2.1 s.2.2) (dd := fun _ : Int32 × Int32 × Int32 => 0) (I := fun i s => i ≤ min 60 T.length ∧ ∃ k, s = (nI (min 60 T.length), nI (sA T k), nI i) ∧ sA T k ≤ i ∧ i < sA T (k + 1) ∧ VdA T i) (R := fun z => ∃ b k, EnA T (min 60 T.length) b k ∧ z = if b < min 60 T.length then nI b else if T.length ≤ 60 ∧ sA T k = T.length then -1 else nI (min 60 T.length)) (min 60 T.length) (by omega) ?_ (s0 := (nI (min 60 T.length), 0, 0)) ⟨Nat.zero_le _, 0, rfl, Nat.zero_le _, sA_lt T 0, fun _ j hj => absurd hj (by omega)⟩
  rintro i _ hi ⟨hi2, k, rfl, hk1, hk2, hv⟩
  dsimp only
  unfold sd_X9_badActSign_14 bd_X9_badActSign_14
  rw [h.2.1]
  simp only [nI_leI (show min 60 T.length < 2 ^ 31 by omega) (show i < 2 ^ 31 by omega), nI_leI (show min 60 T.length < 2 ^ 31 by omega) (show sA T k < 2 ^ 31 by omega), nI_ltI (show min 60 T.length < 2 ^ 31 by omega) (show T.length < 2 ^ 31 by omega), nI_1]
  rcases Nat.lt_or_ge i (min 60 T.length) with z | z
  · obtain ⟨s1, s2⟩ := C_standsA h hT (a := sA T k) (i := i) (by omega) hk1
    obtain ⟨a1, a2⟩ := C_at h hT (i := sA T k) (by omega)
    have ar := aln_rg (chT T (sA T k))
    rw [if_neg (show ¬ min 60 T.length ≤ i by omega), s2, a2, actLen _ (hT _), nI_sub hk1, nI_1]
    simp only [one0, nI_eq (show i - sA T k + 1 < 2 ^ 31 by omega) (show aln (chT T (sA T k)) < 2 ^ 31 by omega)]
    refine ⟨fun _ => ⟨s1, fun _ => a1⟩, ?_⟩
    cases b : stA T (sA T k) i
    · simp only [Bool.false_eq_true, not_false_eq_true, if_true]
      refine .inr ⟨_, rfl, i, k, ⟨hi2, hk1, hk2, hv, fun _ => b⟩, ?_⟩
      rw [if_pos z]
    · simp only [not_true_eq_false, if_false]
      have hv2 := VdA_s hv hk1 hk2 b
      by_cases y : i - sA T k + 1 = aln (chT T (sA T k))
      · have es : sA T (k + 1) = i + 1 := by rw [sA_s]; omega
        rw [if_pos y]
        refine .inl ⟨_, rfl, z, z, k + 1, by rw [es], by omega, ?_, hv2⟩
        have := sA_lt T (k + 1); omega
      · rw [if_neg y]
        refine .inl ⟨_, rfl, z, z, k, rfl, by omega, ?_, hv2⟩
        rw [sA_s] at hk2 ⊢; omega
  · have e : i = min 60 T.length := by omega
    rw [if_pos z]
    refine ⟨fun y => absurd z y, .inr ⟨_, rfl, i, k, ⟨hi2, hk1, hk2, hv, fun y => absurd y (by omega)⟩, ?_⟩⟩
    rw [if_neg (show ¬ i < min 60 T.length by omega)]
    by_cases y : min 60 T.length < T.length
    · rw [if_pos y, if_neg (by omega)]
    · rw [if_neg y]
      by_cases w : min 60 T.length ≤ sA T k
      · rw [if_pos w, if_pos (by omega)]
      · rw [if_neg w, if_neg (by omega)]
end AC

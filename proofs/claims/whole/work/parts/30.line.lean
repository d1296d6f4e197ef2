/-! line, backs -/
def cN (P : Nat → Bool) : Nat → Nat
  | 0 => 0
  | n + 1 => cN P n + (if P n then 1 else 0)
theorem cN_le (P : Nat → Bool) : ∀ n, cN P n ≤ n
  | 0 => Nat.le_refl _
  | n + 1 => by
    have := cN_le P n
    unfold cN
    split <;> omega
theorem cN_add {P Q S : Nat → Bool} : ∀ {n : Nat}, (∀ i, i < n → S i = (P i || Q i) ∧ (P i && Q i) = false) → cN S n = cN P n + cN Q n
  | 0, _ => rfl
  | n + 1, h => by
    have ih := cN_add (n := n) (fun i hi => h i (by omega))
    obtain ⟨h1, h2⟩ := h n (by omega)
    unfold cN
    rw [ih, h1]
    cases hp : P n <;> cases hq : Q n <;> simp [hp, hq] at h2 ⊢ <;> omega
theorem cN_mono {P : Nat → Bool} : ∀ {k n : Nat}, k ≤ n → cN P k ≤ cN P n
  | k, 0, h => by have : k = 0 := by omega
                  subst this; exact Nat.le_refl _
  | k, n + 1, h => by
    by_cases e : k = n + 1
    · subst e; exact Nat.le_refl _
    · have := cN_mono (P := P) (show k ≤ n by omega)
      show cN P k ≤ cN P n + _
      omega
theorem cN_congr {P Q : Nat → Bool} : ∀ {n : Nat}, (∀ i, i < n → P i = Q i) → cN P n = cN Q n
  | 0, _ => rfl
  | n + 1, h => by
    unfold cN
    rw [cN_congr (fun i hi => h i (by omega)), h n (by omega)]
def inn (S : Int32) : Nat → List Int64
  | 0 => []
  | i + 1 => if bt S i then inn S i ++ [(nI i).toInt64] else inn S i
theorem inn_len (S : Int32) : ∀ n, (inn S n).length = cN (fun i => bt S i) n
  | 0 => rfl
  | n + 1 => by
    unfold inn cN
    by_cases q : bt S n = true
    · rw [if_pos q, if_pos q, List.length_append, inn_len S n]; rfl
    · rw [if_neg q, if_neg q, inn_len S n]; rfl
def lnO (F : FL) : Nat → List Int64
  | 0 => []
  | j + 1 => lnO F j ++ inn (staA F (pl j)) (f_n F)
def west (F : FL) (j : Nat) (i : Nat) : Bool := !bt (f_o F) i && decide ((f_p F i).toInt < (j : Int) - 9)
theorem lnO_len {F : FL} (hg : RgF F) : ∀ j, j ≤ 19 → (lnO F j).length = cN (west F j) (f_n F)
  | 0, _ => by
    have hn := hg.1
    show 0 = _
    have : cN (west F 0) (f_n F) = cN (fun _ => false) (f_n F) := cN_congr (fun i hi => by
      have := (hg.2.1 i (by omega)).2.2.1
      unfold west
      rw [decide_eq_false (by omega)]; simp)
    rw [this]
    have z : ∀ n, cN (fun _ => false) n = 0 := fun n => by induction n with
      | zero => rfl
      | succ n ih => unfold cN; rw [ih]; rfl
    rw [z]
  | j + 1, hj => by
    have hn := hg.1
    unfold lnO
    rw [List.length_append, lnO_len hg j (by omega), inn_len]
    refine (cN_add (fun i hi => ?_)).symm
    obtain ⟨f1, -, -⟩ := pl_f j (by omega)
    have e : bt (staA F (pl j)) i = (!bt (f_o F) i && decide ((f_p F i).toInt = (j : Int) - 9)) := by
      unfold staA
      rw [bt_mkb (by omega) (by omega), decide_eq_true hi, Bool.true_and]
      congr 1
      by_cases q : f_p F i = pl j
      · rw [decide_eq_true q, decide_eq_true (by rw [q, f1])]
      · rw [decide_eq_false q, decide_eq_false (fun z => q (by rw [fa_eq, f1]; exact z))]
    rw [e]
    unfold west
    by_cases q1 : (f_p F i).toInt < (j : Int) - 9
    · rw [decide_eq_true q1, decide_eq_true (show (f_p F i).toInt < ((j + 1 : Nat) : Int) - 9 by omega), decide_eq_false (show ¬ (f_p F i).toInt = (j : Int) - 9 by omega)]
      cases bt (f_o F) i <;> simp
    · by_cases q2 : (f_p F i).toInt = (j : Int) - 9
      · rw [decide_eq_false q1, decide_eq_true (show (f_p F i).toInt < ((j + 1 : Nat) : Int) - 9 by omega), decide_eq_true q2]
        cases bt (f_o F) i <;> simp
      · rw [decide_eq_false q1, decide_eq_false (show ¬ (f_p F i).toInt < ((j + 1 : Nat) : Int) - 9 by omega), decide_eq_false q2]
        cases bt (f_o F) i <;> simp
theorem lnO_7 {F : FL} (hg : RgF F) {j k : Nat} (hj : j < 19) (hk : k ≤ f_n F) : (lnO F j ++ inn (staA F (pl j)) k).length ≤ 7 := by
  have hn := hg.1
  have h1 := lnO_len hg (j + 1) (by omega)
  have h2 := cN_le (west F (j + 1)) (f_n F)
  unfold lnO at h1
  rw [List.length_append, inn_len] at h1 ⊢
  have := cN_mono (P := fun i => bt (staA F (pl j)) i) hk
  omega
section LN
variable {σ : ST} {R : List Int64} {μ : Mm}
theorem C_line (h : OK σ) (hc : CSR σ R μ) : p_X11_line μ ∧ v_X11_line μ = nI (lnO (s_F σ) 19).length ∧ ToC (lnO (s_F σ) 19) (e_X11_line μ) := by
  have hn := h.g.1
  unfold p_X11_line v_X11_line e_X11_line
  simp only [forall_eq]
  have c1 := CSR_begin hc
  generalize e_X10_begin μ = μ1 at c1 ⊢
  have key := lpI (f := fun s : Int32 × Mm => bd_X11_line_10 s.1 s.2) (sd := fun s : Int32 × Mm => sd_X11_line_10 s.1 s.2) (dd := fun s : Int32 × Mm => s.2)
    (I := fun j s => ∃ μ', s = (pl j, μ') ∧ j ≤ 19 ∧ CSR σ (lnO (s_F σ) j) μ')
    (R := fun z => CSR σ (lnO (s_F σ) 19) z) 19 (by omega) ?_ (s0 := (-9, μ1)) ⟨μ1, rfl, Nat.zero_le _, c1⟩
  · obtain ⟨k1, k2⟩ := key
    generalize whl _ _ FU _ = z at k2 ⊢
    exact ⟨k1, k2.2.2.1, k2.2⟩
  · rintro j _ hj ⟨μ', rfl, hj2, ht⟩
    dsimp only
    unfold sd_X11_line_10 bd_X11_line_10
    obtain ⟨-, f2, f3⟩ := pl_f j (by omega)
    simp only [f3]
    rcases Nat.lt_or_ge 18 j with z | z
    · have : j = 19 := by omega
      subst this
      rw [if_pos z]
      exact ⟨fun y => absurd z y, .inr ⟨_, rfl, ht⟩⟩
    · obtain ⟨p1, v1⟩ := C_standingOn ht.1.F (pl j)
      rw [v1, if_neg (show ¬ 18 < j by omega)]
      have k2 := lpI (f := fun s : Int32 × Int32 × Int32 × Mm => bd_X11_line_27 s.1 s.2.1 s.2.2.1 s.2.2.2) (sd := fun s : Int32 × Int32 × Int32 × Mm => sd_X11_line_27 s.1 s.2.1 s.2.2.1 s.2.2.2) (dd := fun s : Int32 × Int32 × Int32 × Mm => (0, s.2.2.2))
        (I := fun i s => ∃ μ'', s = (pl j, staA (s_F σ) (pl j), nI i, μ'') ∧ i ≤ f_n (s_F σ) ∧ CSR σ (lnO (s_F σ) j ++ inn (staA (s_F σ) (pl j)) i) μ'')
        (R := fun z => z.1 = pl j ∧ CSR σ (lnO (s_F σ) (j + 1)) z.2) (f_n (s_F σ)) (by omega) ?_ (s0 := (pl j, staA (s_F σ) (pl j), 0, μ')) ⟨μ', rfl, Nat.zero_le _, by simp only [inn, List.append_nil]; exact ht⟩
      · obtain ⟨k1, k2, k3⟩ := k2
        generalize whl _ _ FU _ = y at k2 k3 ⊢
        rw [k2, f2]
        exact ⟨fun _ => ⟨p1, k1⟩, .inl ⟨_, rfl, by omega, y.2, rfl, by omega, k3⟩⟩
      · rintro i _ hi ⟨μ'', rfl, hi2, ht2⟩
        dsimp only
        unfold sd_X11_line_27 bd_X11_line_27
        rw [ht2.1.F.sz, nI_1]
        simp only [nI_leI (show f_n (s_F σ) < 2 ^ 31 by omega) (show i < 2 ^ 31 by omega)]
        rcases Nat.lt_or_ge i (f_n (s_F σ)) with y | y
        · rw [if_neg (show ¬ f_n (s_F σ) ≤ i by omega), isIn_b _ (by omega)]
          simp only [one0]
          have hl := lnO_7 h.g (show j < 19 by omega) hi2
          obtain ⟨q1, q2⟩ := CSR_add ht2 (by omega) (nI i).toInt64
          refine ⟨fun _ _ => q1, .inl ⟨_, rfl, y, _, rfl, by omega, ?_⟩⟩
          have e : inn (staA (s_F σ) (pl j)) (i + 1) = if bt (staA (s_F σ) (pl j)) i then inn (staA (s_F σ) (pl j)) i ++ [(nI i).toInt64] else inn (staA (s_F σ) (pl j)) i := rfl
          rw [e]
          by_cases q : bt (staA (s_F σ) (pl j)) i = true
          · simp only [q, not_true_eq_false, if_true, if_false]
            rw [← List.append_assoc]; exact q2
          · simp only [q, not_false_eq_true, if_true, if_false, Bool.false_eq_true]
            exact ht2
        · have : i = f_n (s_F σ) := by omega
          subst this
          rw [if_pos (Nat.le_refl _)]
          exact ⟨fun y => absurd (Nat.le_refl _) y, .inr ⟨_, rfl, rfl, ht2⟩⟩
theorem M_line (h : OK σ) (hm : MSR σ R μ) : p_X12_line μ ∧ v_X12_line μ = nI (lnO (s_F σ) 19).length ∧ ToM (lnO (s_F σ) 19) (e_X12_line μ) := by
  have hn := h.g.1
  unfold p_X12_line v_X12_line e_X12_line
  simp only [forall_eq]
  have c1 := MSR_begin (R := R) ⟨hm.1.th 0, hm.2.th 0⟩
  generalize upI (upI μ 49 0 0) 49 1 0 = μ1 at c1 ⊢
  have key := lpI (f := fun s : Int32 × Mm => bd_X12_line_13 s.1 s.2) (sd := fun s : Int32 × Mm => sd_X12_line_13 s.1 s.2) (dd := fun s : Int32 × Mm => s.2)
    (I := fun j s => ∃ μ', s = (pl j, μ') ∧ j ≤ 19 ∧ MSR σ (lnO (s_F σ) j) μ')
    (R := fun z => MSR σ (lnO (s_F σ) 19) z) 19 (by omega) ?_ (s0 := (-9, μ1)) ⟨μ1, rfl, Nat.zero_le _, c1⟩
  · obtain ⟨k1, k2⟩ := key
    generalize whl _ _ FU _ = z at k2 ⊢
    exact ⟨k1, k2.2.2.1, k2.2⟩
  · rintro j _ hj ⟨μ', rfl, hj2, ht⟩
    dsimp only
    unfold sd_X12_line_13 bd_X12_line_13
    obtain ⟨-, f2, f3⟩ := pl_f j (by omega)
    simp only [f3]
    rcases Nat.lt_or_ge 18 j with z | z
    · have : j = 19 := by omega
      subst this
      rw [if_pos z]
      exact ⟨fun y => absurd z y, .inr ⟨_, rfl, ht⟩⟩
    · rw [if_neg (show ¬ 18 < j by omega)]
      have k2 := lpI (f := fun s : Int32 × Int32 × Mm => bd_X12_line_21 s.1 s.2.1 s.2.2) (sd := fun s : Int32 × Int32 × Mm => sd_X12_line_21 s.1 s.2.1 s.2.2) (dd := fun s : Int32 × Int32 × Mm => (0, s.2.2))
        (I := fun i s => ∃ μ'', s = (pl j, nI i, μ'') ∧ i ≤ f_n (s_F σ) ∧ MSR σ (lnO (s_F σ) j ++ inn (staA (s_F σ) (pl j)) i) μ'')
        (R := fun z => z.1 = pl j ∧ MSR σ (lnO (s_F σ) (j + 1)) z.2) (f_n (s_F σ)) (by omega) ?_ (s0 := (pl j, 0, μ')) ⟨μ', rfl, Nat.zero_le _, by simp only [inn, List.append_nil]; exact ht⟩
      · obtain ⟨k1, k2, k3⟩ := k2
        generalize whl _ _ FU _ = y at k2 k3 ⊢
        rw [k2, f2]
        exact ⟨fun _ => k1, .inl ⟨_, rfl, by omega, y.2, rfl, by omega, k3⟩⟩
      · rintro i _ hi ⟨μ'', rfl, hi2, ht2⟩
        dsimp only
        unfold sd_X12_line_21 bd_X12_line_21
        rw [ht2.1.F.sz, nI_1]
        simp only [nI_leI (show f_n (s_F σ) < 2 ^ 31 by omega) (show i < 2 ^ 31 by omega)]
        rcases Nat.lt_or_ge i (f_n (s_F σ)) with y | y
        · obtain ⟨p1, v1⟩ := M_standingOn ht2.1.F (pl j)
          rw [if_neg (show ¬ f_n (s_F σ) ≤ i by omega), v1, has_b _ (by omega)]
          simp only [one0]
          have hl := lnO_7 h.g (show j < 19 by omega) hi2
          obtain ⟨q1, q2⟩ := MSR_add ht2 (by omega) (nI i).toInt64
          refine ⟨fun _ => ⟨p1, fun _ => q1⟩, .inl ⟨_, rfl, y, _, rfl, by omega, ?_⟩⟩
          have e : inn (staA (s_F σ) (pl j)) (i + 1) = if bt (staA (s_F σ) (pl j)) i then inn (staA (s_F σ) (pl j)) i ++ [(nI i).toInt64] else inn (staA (s_F σ) (pl j)) i := rfl
          rw [e]
          by_cases q : bt (staA (s_F σ) (pl j)) i = true
          · simp only [q, not_true_eq_false, if_true, if_false]
            rw [← List.append_assoc]; exact q2
          · simp only [q, not_false_eq_true, if_true, if_false, Bool.false_eq_true]
            exact ht2
        · have : i = f_n (s_F σ) := by omega
          subst this
          rw [if_pos (Nat.le_refl _)]
          exact ⟨fun y => absurd (Nat.le_refl _) y, .inr ⟨_, rfl, rfl, ht2⟩⟩
theorem call_line (h : Sim σ R μ) : Call (p_X11_line μ) (p_X12_line (e_X11_line μ)) (v_X11_line μ) (v_X12_line (e_X11_line μ)) (e_X12_line (e_X11_line μ)) := by
  have fC := fr_X11_line μ
  have m := h.m1 fC (by decide)
  exact Two h fC (fs_X12_line _) (C_line h.1 (R := R) ⟨h.2.1, h.2.2.2.1⟩) (M_line h.1 (R := R) m) (by decide) (by decide)
/-! backs -/
def bkB (F : FL) (a b : Nat) : Bool := !bt (f_o F) a && (!bt (f_o F) b && (decide (¬ f_p F a = 0) && (decide (f_p F a = -f_p F b) && decide (ldF F a = ldF F b))))
theorem C_bb {F : FL} (h : FlC 1 F μ) {a b : Nat} (ha : a < f_n F) (hb : b < f_n F) : p_X1_areBackToBack 1 (nI a) (nI b) μ ∧ v_X1_areBackToBack 1 (nI a) (nI b) μ = if bkB F a b then 1 else 0 := by
  have hn := h.1
  unfold p_X1_areBackToBack v_X1_areBackToBack bkB
  obtain ⟨p1, v1⟩ := C_placeOf h ha
  obtain ⟨p2, v2⟩ := C_placeOf h hb
  obtain ⟨p3, v3⟩ := C_load h ha
  obtain ⟨p4, v4⟩ := C_load h hb
  refine ⟨fun _ _ => ⟨p1, fun _ => ⟨p1, p2, fun _ => ⟨p3, p4⟩⟩⟩, ?_⟩
  rw [C_isOff h (by omega), C_isOff h (by omega), v1, v2, v3, v4]
  cases bt (f_o F) a <;> cases bt (f_o F) b <;> by_cases q1 : f_p F a = 0 <;> by_cases q2 : f_p F a = -f_p F b <;> by_cases q3 : ldF F a = ldF F b <;> simp_all
theorem M_bb {F : FL} (h : FlM 52 F μ) {a b : Nat} (ha : a < f_n F) (hb : b < f_n F) : p_X12_areBacks (nI a) (nI b) μ ∧ v_X12_areBacks (nI a) (nI b) μ = if bkB F a b then 1 else 0 := by
  have hn := h.1
  unfold p_X12_areBacks v_X12_areBacks bkB
  obtain ⟨p3, v3⟩ := M_load h ha
  obtain ⟨p4, v4⟩ := M_load h hb
  refine ⟨⟨fun _ _ => in7 (by omega), fun _ => ⟨in7 (by omega), in7 (by omega), fun _ => ⟨p3, p4⟩⟩⟩, ?_⟩
  rw [M_here h, has_b _ (by omega), has_b _ (by omega), bt_pre hn (by omega), bt_pre hn (by omega), decide_eq_true ha, decide_eq_true hb, cl7 (by omega), cl7 (by omega), h.p (by omega), h.p (by omega), v3, v4]
  cases bt (f_o F) a <;> cases bt (f_o F) b <;> by_cases q1 : f_p F a = 0 <;> by_cases q2 : f_p F a = -f_p F b <;> by_cases q3 : ldF F a = ldF F b <;> simp [q1, q2, q3]
/-- how many pairs, what is told: the same on both sides -/
def BkI (σ : ST) (N : Nat) (c : Int32) (R : List Int64) (μ μ' : Mm) : Prop := CSR σ R μ ∧ MSR σ R μ' ∧ ∃ k, k ≤ N ∧ c = nI k ∧ (k = 0 → R = []) ∧ R.length ≤ 2
theorem call_backs (h : Sim σ R μ) : Call (p_X11_backs μ) (p_X12_backs (e_X11_backs μ)) (v_X11_backs μ) (v_X12_backs (e_X11_backs μ)) (e_X12_backs (e_X11_backs μ)) := by
  have fC := fr_X11_backs μ
  have m := h.m1 fC (by decide)
  have hn := h.1.g.1
  refine Two2 h fC (fs_X12_backs _) ?_ (by decide) (by decide)
  have c1 := CSR_begin (σ := σ) (R := R) ⟨h.2.1, h.2.2.2.1⟩
  have d1 := MSR_begin (σ := σ) (R := R) ⟨m.1.th 0, m.2.th 0⟩
  unfold p_X12_backs v_X12_backs e_X12_backs
  simp only [forall_eq]
  generalize upI (upI (e_X11_backs μ) 49 0 0) 49 1 0 = ν1 at d1 ⊢
  unfold p_X11_backs v_X11_backs e_X11_backs
  simp only [forall_eq]
  generalize e_X10_begin μ = μ1 at c1 ⊢
  have key := lq2 (f := fun s : Int32 × Int32 × Mm => bd_X11_backs_11 s.1 s.2.1 s.2.2) (sd := fun s : Int32 × Int32 × Mm => sd_X11_backs_11 s.1 s.2.1 s.2.2) (dd := fun s : Int32 × Int32 × Mm => (0, s.2.2)) (f' := fun s : Int32 × Int32 × Mm => bd_X12_backs_14 s.1 s.2.1 s.2.2) (sd' := fun s : Int32 × Int32 × Mm => sd_X12_backs_14 s.1 s.2.1 s.2.2) (dd' := fun s : Int32 × Int32 × Mm => (0, s.2.2))
    (I := fun a s s' => a ≤ f_n (s_F σ) ∧ ∃ c R μ μ', s = (c, nI a, μ) ∧ s' = (c, nI a, μ') ∧ BkI σ (7 * a) c R μ μ') (R := fun r r' => r.1 = r'.1 ∧ ∃ R, CSR σ R r.2 ∧ MSR σ R r'.2) (f_n (s_F σ)) (by omega) ?_ (s0 := (0, 0, μ1)) (s0' := (0, 0, ν1)) ⟨Nat.zero_le _, 0, [], μ1, ν1, rfl, rfl, c1, d1, 0, by omega, rfl, fun _ => rfl, by simp⟩
  · obtain ⟨k1, k2, k3, R', k4, k5⟩ := key
    exact ⟨k1, k2, k3, R', k4.2, k5.2⟩
  · rintro a _ _ ha ⟨ha2, c, R1, μa, μb, rfl, rfl, hI⟩
    dsimp only
    unfold sd_X11_backs_11 sd_X12_backs_14 bd_X11_backs_11 bd_X12_backs_14
    rw [hI.1.1.F.sz, hI.2.1.1.F.sz, nI_1]
    simp only [nI_leI (show f_n (s_F σ) < 2 ^ 31 by omega) (show a < 2 ^ 31 by omega)]
    rcases Nat.lt_or_ge a (f_n (s_F σ)) with y | y
    · rw [if_neg (show ¬ f_n (s_F σ) ≤ a by omega), if_neg (show ¬ f_n (s_F σ) ≤ a by omega)]
      have k2 := lq2 (f := fun s : Int32 × Int32 × Int32 × Mm => bd_X11_backs_26 s.1 s.2.1 s.2.2.1 s.2.2.2) (sd := fun s : Int32 × Int32 × Int32 × Mm => sd_X11_backs_26 s.1 s.2.1 s.2.2.1 s.2.2.2) (dd := fun s : Int32 × Int32 × Int32 × Mm => (0, 0, s.2.2.2)) (f' := fun s : Int32 × Int32 × Int32 × Mm => bd_X12_backs_26 s.1 s.2.1 s.2.2.1 s.2.2.2) (sd' := fun s : Int32 × Int32 × Int32 × Mm => sd_X12_backs_26 s.1 s.2.1 s.2.2.1 s.2.2.2) (dd' := fun s : Int32 × Int32 × Int32 × Mm => (0, 0, s.2.2.2))
        (I := fun i s s' => a + 1 + i ≤ f_n (s_F σ) ∧ ∃ c R μ μ', s = (c, nI a, nI (a + 1 + i), μ) ∧ s' = (c, nI a, nI (a + 1 + i), μ') ∧ BkI σ (7 * a + i) c R μ μ') (R := fun r r' => r.1 = r'.1 ∧ r.2.1 = nI a ∧ r'.2.1 = nI a ∧ ∃ R, BkI σ (7 * (a + 1)) r.1 R r.2.2 r'.2.2) (f_n (s_F σ) - (a + 1)) (by omega) ?_ (s0 := (c, nI a, nI (a + 1), μa)) (s0' := (c, nI a, nI (a + 1), μb)) ⟨by omega, c, R1, μa, μb, rfl, rfl, hI⟩
      · obtain ⟨k1, k2, k3, k4, k5, R2, k6⟩ := k2
        generalize whl (fun s : Int32 × Int32 × Int32 × Mm => bd_X11_backs_26 s.1 s.2.1 s.2.2.1 s.2.2.2) _ FU _ = z at k3 k4 k6 ⊢
        generalize whl (fun s : Int32 × Int32 × Int32 × Mm => bd_X12_backs_26 s.1 s.2.1 s.2.2.1 s.2.2.2) _ FU _ = z' at k3 k5 k6 ⊢
        rw [k4, k5, ← k3, nI_1]
        exact ⟨fun _ => k1, fun _ => k2, .inl ⟨_, _, rfl, rfl, y, by omega, z.1, R2, z.2.2, z'.2.2, rfl, rfl, k6⟩⟩
      · rintro i _ _ hi ⟨hi2, c, R1, μa, μb, rfl, rfl, hc, hm, k, hk, rfl, hk0, hl⟩
        dsimp only
        unfold sd_X11_backs_26 sd_X12_backs_26 bd_X11_backs_26 bd_X12_backs_26
        rw [hc.1.F.sz, hm.1.F.sz]
        simp only [nI_leI (show f_n (s_F σ) < 2 ^ 31 by omega) (show a + 1 + i < 2 ^ 31 by omega), nI_1, forall_eq]
        rcases Nat.lt_or_ge (a + 1 + i) (f_n (s_F σ)) with x | x
        · obtain ⟨p1, v1⟩ := C_bb hc.1.F y x
          obtain ⟨p2, v2⟩ := M_bb hm.1.F y x
          rw [if_neg (show ¬ f_n (s_F σ) ≤ a + 1 + i by omega), if_neg (show ¬ f_n (s_F σ) ≤ a + 1 + i by omega), v1, v2]
          obtain ⟨q1, q2⟩ := CSR_add hc (by omega) (nI a).toInt64
          obtain ⟨q3, q4⟩ := CSR_add q2 (by simp; omega) (nI (a + 1 + i)).toInt64
          obtain ⟨r1, r2⟩ := MSR_add hm (by omega) (nI a).toInt64
          obtain ⟨r3, r4⟩ := MSR_add r2 (by simp; omega) (nI (a + 1 + i)).toInt64
          cases hb : bkB (s_F σ) a (a + 1 + i)
          · simp only [Bool.false_eq_true, if_false, if_true]
            rw [v2, hb]
            refine ⟨fun _ => ⟨p1, fun z => absurd trivial z⟩, fun _ => ⟨p2, fun z => absurd trivial z, p2⟩, .inl ⟨_, _, rfl, rfl, by omega, by omega, nI k, R1, μa, μb, rfl, ?_, hc, hm, k, by omega, rfl, hk0, hl⟩⟩
            simp [v_X12_flag]
            rfl
          · simp only [if_true, show ¬ ((1 : Int32) = 0) from by decide, if_false]
            by_cases q : k = 0
            · subst q
              have e0 : R1 = [] := hk0 rfl
              subst e0
              simp only [nI_0, if_true]
              obtain ⟨p5, v5⟩ := M_bb r4.1.F y x
              rw [v5, hb]
              refine ⟨fun _ => ⟨p1, fun _ _ => ⟨q1, q3⟩⟩, fun _ => ⟨p2, fun _ _ => ⟨r1, r3⟩, p5⟩, .inl ⟨_, _, rfl, rfl, by omega, by omega, nI 1, _, _, _, rfl, ?_, q4, r4, 1, by omega, rfl, fun z => absurd z (by omega), by simp⟩⟩
              simp [v_X12_flag]
              exact ⟨rfl, rfl⟩
            · have g : ¬ nI k = 0 := nI_ne0 (by omega) (by omega)
              simp only [g, if_false]
              rw [v2, hb]
              refine ⟨fun _ => ⟨p1, fun _ z => absurd z id⟩, fun _ => ⟨p2, fun _ z => absurd z id, p2⟩, .inl ⟨_, _, rfl, rfl, by omega, by omega, nI (k + 1), R1, μa, μb, rfl, ?_, hc, hm, k + 1, by omega, rfl, fun z => absurd z (by omega), hl⟩⟩
              simp [v_X12_flag, nI_1]
              rfl
        · have : a + 1 + i = f_n (s_F σ) := by omega
          rw [if_pos (show f_n (s_F σ) ≤ a + 1 + i by omega), if_pos (show f_n (s_F σ) ≤ a + 1 + i by omega)]
          exact ⟨fun y => absurd x y, fun y => absurd x y, .inr ⟨_, _, rfl, rfl, rfl, rfl, rfl, R1, hc, hm, k, by omega, rfl, hk0, hl⟩⟩
    · have : a = f_n (s_F σ) := by omega
      subst this
      rw [if_pos (Nat.le_refl _), if_pos (Nat.le_refl _)]
      exact ⟨fun y => absurd (Nat.le_refl _) y, fun y => absurd (Nat.le_refl _) y, .inr ⟨_, _, rfl, rfl, rfl, R1, hI.1, hI.2.1⟩⟩
end LN

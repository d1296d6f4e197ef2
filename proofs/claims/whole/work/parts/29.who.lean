/-! heads, farthest, line, backs, crowd: both sides at once -/
def CSR (σ : ST) (R : List Int64) (μ : Mm) : Prop := CS σ μ ∧ ToC R μ
def MSR (σ : ST) (R : List Int64) (μ : Mm) : Prop := MS σ μ ∧ ToM R μ
section WH
variable {σ : ST} {R : List Int64} {μ : Mm}
theorem CSR_begin (h : CSR σ R μ) : CSR σ [] (e_X10_begin μ) := ⟨h.1.fr (fr_X10_begin μ) (by decide), ToC_0 μ⟩
theorem CSR_add (h : CSR σ R μ) (hl : R.length < 16) (x : Int64) : p_X10_add x μ ∧ CSR σ (R ++ [x]) (e_X10_add x μ) := by
  obtain ⟨p1, p2⟩ := C_add h.2 hl x
  exact ⟨p1, h.1.fr (fr_X10_add x μ) (by decide), p2⟩
theorem MSR_begin (h : MSR σ R μ) : MSR σ [] (upI μ 49 1 0) := ⟨h.1.fs (L := [1001]) (Fs.upF Fs.rfl (by simp)) (by decide), ToM_0 μ⟩
theorem MSR_add (h : MSR σ R μ) (hl : R.length < 16) (x : Int64) : p_X12_enters x μ ∧ MSR σ (R ++ [x]) (e_X12_enters x μ) := by
  obtain ⟨p1, p2⟩ := M_enters h.2 hl x
  exact ⟨p1, h.1.fs (fs_X12_enters x μ) (by decide), p2⟩
theorem Two2 {pc pm : Prop} {vc vm : Int32} {μ1 μ2 : Mm} {LC LM : List Nat} (h : Sim σ R μ) (fC : Fr LC μ μ1) (fM : Fs LM μ1 μ2) (a : pc ∧ pm ∧ vc = vm ∧ ∃ R', ToC R' μ1 ∧ ToM R' μ2) (dC : ∀ x, x ∈ LC → x ∈ scrC) (dM : ∀ x, x ∈ LM → x ∈ scrM) : Call pc pm vc vm μ2 := by
  obtain ⟨a1, a2, a3, R', a4, a5⟩ := a
  exact ⟨a1, a2, a3, Qry h fC fM a4 a5 dC dM⟩
def carO (F : FL) (s : Int32) : Int32 := sm (fun i => if bt (f_o F) i then 0 else ldF F i * (if bt s i then -f_h F i else f_h F i)) (f_n F)
theorem M_caring {F : FL} (h : FlM 52 F μ) (s : Int32) : p_X12_caring s μ ∧ v_X12_caring s μ = carO F s := by
  have hn := h.1
  refine lpF (f := fun s : Int32 × Int32 × Int32 => bd_X12_caring_4 μ s.1 s.2.1 s.2.2) (sd := fun s : Int32 × Int32 × Int32 => sd_X12_caring_4 μ s.1 s.2.1 s.2.2) (dd := fun _ : Int32 × Int32 × Int32 => 0)
    (fun i => (s, sm (fun i => if bt (f_o F) i then 0 else ldF F i * (if bt s i then -f_h F i else f_h F i)) i, nI i)) (f_n F) (r := carO F s) (by omega) (fun i hi => ⟨?_, ?_⟩) ⟨?_, ?_⟩
  · intro _; exact ⟨⟨fun _ => vp_in_nI (by omega) (by omega), fun _ => vp_in_nI (by omega) (by omega)⟩, fun _ => (M_load h hi).1⟩
  · show bd_X12_caring_4 μ _ _ (nI i) = _
    unfold bd_X12_caring_4
    rw [h.sz, if_neg (nI_ge hi (by omega)), nI_1, has_b _ (by omega), has_b _ (by omega), M_here h, bt_pre hn (by omega), (M_load h hi).2, nI_clamp (by omega), h.h (by omega), decide_eq_true hi]
    simp only [sm]
    cases bt s i <;> cases bt (f_o F) i <;> simp
  · intro z; exact absurd (by show μ.1 49 3 ≤ nI (f_n F); rw [h.sz]; exact nI_le (Nat.le_refl _) (by omega)) z
  · show bd_X12_caring_4 μ _ _ (nI (f_n F)) = _
    unfold bd_X12_caring_4
    rw [h.sz, if_pos (nI_le (Nat.le_refl _) (by omega))]
    rfl
theorem car0 (F : FL) : carO F 0 = carA F := by
  unfold carO carA
  refine sm_congr (fun i _ => ?_)
  rw [b_0]; rfl
theorem call_heads (h : Sim σ R μ) : Call (p_X11_heads μ) (p_X12_heads (e_X11_heads μ)) (v_X11_heads μ) (v_X12_heads (e_X11_heads μ)) (e_X12_heads (e_X11_heads μ)) := by
  have fC := fr_X11_heads μ
  have m := h.m1 fC (by decide)
  have hn := h.1.g.1
  refine Two2 h fC (fs_X12_heads _) ?_ (by decide) (by decide)
  have hc : CSR σ R μ := ⟨h.2.1, h.2.2.2.1⟩
  have hm0 : MSR σ R (upI (e_X11_heads μ) 49 0 0) := ⟨m.1.th 0, m.2.th 0⟩
  unfold p_X12_heads v_X12_heads e_X12_heads
  simp only [forall_eq]
  generalize upI (e_X11_heads μ) 49 0 0 = μm at hm0 ⊢
  have key := lq2 (f := fun s : Int32 × Int32 × Int32 × Int32 => bd_X11_heads_9 μ s.1 s.2.1 s.2.2.1 s.2.2.2) (sd := fun s : Int32 × Int32 × Int32 × Int32 => sd_X11_heads_9 μ s.1 s.2.1 s.2.2.1 s.2.2.2) (dd := fun _ : Int32 × Int32 × Int32 × Int32 => (0, 0, 0)) (f' := fun s : Int32 × Int32 × Int32 × Int32 => bd_X12_heads_14 μm s.1 s.2.1 s.2.2.1 s.2.2.2) (sd' := fun s : Int32 × Int32 × Int32 × Int32 => sd_X12_heads_14 μm s.1 s.2.1 s.2.2.1 s.2.2.2) (dd' := fun _ : Int32 × Int32 × Int32 × Int32 => (0, 0, 0))
    (I := fun i s s' => i ≤ f_n (s_F σ) ∧ ∃ a b c, s = (a, b, c, nI i) ∧ s' = (a, b, c, nI i)) (R := fun r r' => r = r') (f_n (s_F σ)) (by omega) ?_ (s0 := (0, 0, 0, 0)) (s0' := (0, 0, 0, 0)) ⟨Nat.zero_le _, 0, 0, 0, rfl, rfl⟩
  · obtain ⟨k1, k2, k3⟩ := key
    unfold p_X11_heads v_X11_heads e_X11_heads
    simp only [forall_eq]
    generalize whl (fun s : Int32 × Int32 × Int32 × Int32 => bd_X11_heads_9 μ s.1 s.2.1 s.2.2.1 s.2.2.2) _ FU _ = z at k3 ⊢
    rw [← k3]
    have c1 := CSR_begin hc
    generalize e_X10_begin μ = μ1 at c1 ⊢
    obtain ⟨p2, c2⟩ := CSR_add c1 (by simp) (1000 + z.2.1).toInt64
    generalize e_X10_add (1000 + z.2.1).toInt64 μ1 = μ2 at c2 ⊢
    obtain ⟨p3, c3⟩ := CSR_add c2 (by simp) (1000 + z.2.2).toInt64
    generalize e_X10_add (1000 + z.2.2).toInt64 μ2 = μ3 at c3 ⊢
    obtain ⟨p4, v4⟩ := C_care c3.1.F
    rw [v4]
    obtain ⟨p5, c5⟩ := CSR_add c3 (by simp) (10000 + carA (s_F σ)).toInt64
    have d1 := MSR_begin hm0
    generalize upI μm 49 1 0 = ν1 at d1 ⊢
    obtain ⟨q2, d2⟩ := MSR_add d1 (by simp) (1000 + z.2.1).toInt64
    generalize e_X12_enters (1000 + z.2.1).toInt64 ν1 = ν2 at d2 ⊢
    obtain ⟨q3, d3⟩ := MSR_add d2 (by simp) (1000 + z.2.2).toInt64
    generalize e_X12_enters (1000 + z.2.2).toInt64 ν2 = ν3 at d3 ⊢
    obtain ⟨q4, w4⟩ := M_caring d3.1.F 0
    rw [w4, car0]
    obtain ⟨q5, d5⟩ := MSR_add d3 (by simp) (10000 + carA (s_F σ)).toInt64
    exact ⟨⟨k1, p2, p3, p4, p5⟩, ⟨k2, q2, q3, q4, q5⟩, rfl, _, c5.2, d5.2⟩
  · rintro i _ _ hi ⟨hi2, a, b, c, rfl, rfl⟩
    dsimp only
    unfold sd_X11_heads_9 sd_X12_heads_14 bd_X11_heads_9 bd_X12_heads_14
    rw [hc.1.F.sz, hm0.1.F.sz, nI_1]
    simp only [nI_leI (show f_n (s_F σ) < 2 ^ 31 by omega) (show i < 2 ^ 31 by omega), nI_clamp (show i < 2 ^ 31 by omega)]
    rcases Nat.lt_or_ge i (f_n (s_F σ)) with z | z
    · rw [if_neg (show ¬ f_n (s_F σ) ≤ i by omega), if_neg (show ¬ f_n (s_F σ) ≤ i by omega), C_isOff hc.1.F (by omega), (C_load hc.1.F z).2, show μ.1 3 i = f_h (s_F σ) i from hc.1.F.h (by omega), dir_C, M_here hm0.1.F, has_b _ (by omega), bt_pre hn (by omega), (M_load hm0.1.F z).2, hm0.1.F.h (by omega), dir_M, decide_eq_true z]
      refine ⟨fun _ _ => ⟨vp_in_nI (by omega) (by omega), (C_load hc.1.F z).1, vp_in_nI (by omega) (by omega)⟩, fun _ => ⟨fun _ => vp_in_nI (by omega) (by omega), (M_load hm0.1.F z).1, fun _ => vp_in_nI (by omega) (by omega)⟩, .inl ⟨_, _, rfl, rfl, z, by omega, _, _, _, rfl, ?_⟩⟩
      cases bt (f_o (s_F σ)) i <;> simp
    · have : i = f_n (s_F σ) := by omega
      subst this
      rw [if_pos (Nat.le_refl _), if_pos (Nat.le_refl _)]
      exact ⟨fun y => absurd (Nat.le_refl _) y, fun y => absurd (Nat.le_refl _) y, .inr ⟨_, _, rfl, rfl, rfl⟩⟩
theorem abs_nn {x : Int32} (h : -9 ≤ x.toInt) (h2 : x.toInt ≤ 9) : 0 ≤ (if 0 ≤ x then x else 0 - x).toInt ∧ (if 0 ≤ x then x else 0 - x).toInt ≤ 9 := by
  by_cases q : 0 ≤ x
  · rw [if_pos q]
    rw [fa_le, t0] at q
    omega
  · rw [if_neg q]
    rw [fa_le, t0] at q
    rw [toInt_subS (by rw [t0]; omega), t0]
    omega
theorem call_farthest (h : Sim σ R μ) : Call (p_X11_farthest μ) (p_X12_farthest (e_X11_farthest μ)) (v_X11_farthest μ) (v_X12_farthest (e_X11_farthest μ)) (e_X12_farthest (e_X11_farthest μ)) := by
  have fC := fr_X11_farthest μ
  have m := h.m1 fC (by decide)
  have hn := h.1.g.1
  refine Two2 h fC (fs_X12_farthest _) ?_ (by decide) (by decide)
  have hc : CSR σ R μ := ⟨h.2.1, h.2.2.2.1⟩
  have hm0 : MSR σ R (upI (e_X11_farthest μ) 49 0 0) := ⟨m.1.th 0, m.2.th 0⟩
  unfold p_X12_farthest v_X12_farthest e_X12_farthest
  simp only [forall_eq]
  generalize upI (e_X11_farthest μ) 49 0 0 = μm at hm0 ⊢
  have key := lq2 (f := fun s : Int32 × Int32 × Int32 × Int32 => bd_X11_farthest_10 μ s.1 s.2.1 s.2.2.1 s.2.2.2) (sd := fun s : Int32 × Int32 × Int32 × Int32 => sd_X11_farthest_10 μ s.1 s.2.1 s.2.2.1 s.2.2.2) (dd := fun _ : Int32 × Int32 × Int32 × Int32 => (0, 0, 0)) (f' := fun s : Int32 × Int32 × Int32 × Int32 => bd_X12_farthest_15 μm s.1 s.2.1 s.2.2.1 s.2.2.2) (sd' := fun s : Int32 × Int32 × Int32 × Int32 => sd_X12_farthest_15 μm s.1 s.2.1 s.2.2.1 s.2.2.2) (dd' := fun _ : Int32 × Int32 × Int32 × Int32 => (0, 0, 0))
    (I := fun i s s' => i ≤ f_n (s_F σ) ∧ ∃ a b c, s = (a, b, c, nI i) ∧ s' = (a, b, c, nI i) ∧ -1 ≤ b.toInt ∧ (a = -2 ∨ ∃ j, j < 7 ∧ a = nI j)) (R := fun r r' => r = r' ∧ (r.1 = -2 ∨ ∃ j, j < 7 ∧ r.1 = nI j)) (f_n (s_F σ)) (by omega) ?_ (s0 := (-2, -1, 0, 0)) (s0' := (-2, -1, 0, 0)) ⟨Nat.zero_le _, -2, -1, 0, rfl, rfl, by decide +kernel, .inl rfl⟩
  · obtain ⟨k1, k2, k3, k4⟩ := key
    unfold p_X11_farthest v_X11_farthest e_X11_farthest
    simp only [forall_eq]
    generalize whl (fun s : Int32 × Int32 × Int32 × Int32 => bd_X11_farthest_10 μ s.1 s.2.1 s.2.2.1 s.2.2.2) _ FU _ = z at k3 k4 ⊢
    rw [← k3]
    have c1 := CSR_begin hc
    generalize e_X10_begin μ = μ1 at c1 ⊢
    obtain ⟨p2, c2⟩ := CSR_add c1 (by simp) z.2.1.toInt64
    generalize e_X10_add z.2.1.toInt64 μ1 = μ2 at c2 ⊢
    obtain ⟨p3, c3⟩ := CSR_add c2 (by simp) z.2.2.toInt64
    have d1 := MSR_begin hm0
    generalize upI μm 49 1 0 = ν1 at d1 ⊢
    obtain ⟨q2, d2⟩ := MSR_add d1 (by simp) z.2.1.toInt64
    generalize e_X12_enters z.2.1.toInt64 ν1 = ν2 at d2 ⊢
    obtain ⟨q3, d3⟩ := MSR_add d2 (by simp) z.2.2.toInt64
    refine ⟨⟨k1, fun _ => ⟨p2, p3⟩⟩, ⟨k2, fun _ => ⟨q2, q3⟩⟩, rfl, ?_⟩
    rcases k4 with e | ⟨j, hj, e⟩
    · rw [e, if_pos rfl, if_pos (by decide)]
      exact ⟨R, hc.2, hm0.2⟩
    · rw [e, if_neg (nI_nm2 (by omega)), if_neg (nI_pos (by omega))]
      exact ⟨_, c3.2, d3.2⟩
  · rintro i _ _ hi ⟨hi2, a, b, c, rfl, rfl, hb, ha⟩
    dsimp only
    unfold sd_X11_farthest_10 sd_X12_farthest_15 bd_X11_farthest_10 bd_X12_farthest_15
    rw [hc.1.F.sz, hm0.1.F.sz, nI_1]
    simp only [nI_leI (show f_n (s_F σ) < 2 ^ 31 by omega) (show i < 2 ^ 31 by omega), nI_clamp (show i < 2 ^ 31 by omega)]
    rcases Nat.lt_or_ge i (f_n (s_F σ)) with z | z
    · rw [if_neg (show ¬ f_n (s_F σ) ≤ i by omega), if_neg (show ¬ f_n (s_F σ) ≤ i by omega), C_isOff hc.1.F (by omega), show μ.1 4 i = f_p (s_F σ) i from hc.1.F.p (by omega), cl21, hm0.1.F.o, has_b _ (by omega), cl7 (by omega), hm0.1.F.p (by omega)]
      have hp := (h.1.g.2.1 i (by omega)).2.2.1
      have hab := abs_nn hp.1 hp.2
      generalize (if 0 ≤ f_p (s_F σ) i then f_p (s_F σ) i else 0 - f_p (s_F σ) i) = d at hab ⊢
      refine ⟨fun _ => vp_in_nI (by omega) (by omega), fun _ _ => in7 (by omega), ?_⟩
      have g0 : ¬ d < 0 := by rw [fa_lt, t0]; omega
      have gm : (-1 : Int32) ≤ b := by rw [fa_le, tm1]; omega
      have gm2 : ¬ b < -1 := by rw [fa_lt, tm1]; omega
      cases bt (f_o (s_F σ)) i
      · simp only [Bool.false_eq_true, if_false, if_true, g0]
        by_cases q : d ≤ b
        · have q2 : ¬ b < d := by rw [fa_lt]; rw [fa_le] at q; omega
          simp only [q, q2, if_true, if_false]
          refine .inl ⟨_, _, rfl, rfl, z, by omega, a, b, _, rfl, ?_, hb, ha⟩
          by_cases q3 : d = b <;> simp [q3, v_X12_flag]
        · have q2 : b < d := by rw [fa_lt]; rw [fa_le] at q; omega
          simp only [q, q2, if_true, if_false]
          exact .inl ⟨_, _, rfl, rfl, z, by omega, nI i, d, 1, rfl, rfl, by omega, .inr ⟨i, by omega, rfl⟩⟩
      · simp only [if_true, show ¬ ((1 : Int32) = 0) from by decide, if_false, gm, gm2, show ((-1 : Int32) < 0) from by decide]
        exact .inl ⟨_, _, rfl, rfl, z, by omega, a, b, c, rfl, by simp [v_X12_flag], hb, ha⟩
    · have : i = f_n (s_F σ) := by omega
      subst this
      rw [if_pos (Nat.le_refl _), if_pos (Nat.le_refl _)]
      exact ⟨fun y => absurd (Nat.le_refl _) y, fun y => absurd (Nat.le_refl _) y, .inr ⟨_, _, rfl, rfl, rfl, ha⟩⟩
/-! places from west to east -/
def pl (j : Nat) : Int32 := -9 + nI j
theorem pl_f : ∀ j, j < 20 → (pl j).toInt = (j : Int) - 9 ∧ pl j + 1 = pl (j + 1) ∧ (((9 : Int32) < pl j) ↔ 18 < j) := by decide +kernel
theorem bc_0 (g : Nat → Bool) {n : Nat} (hn : n ≤ 7) : v_J6_bitCount_0f7a4 (mkb g n) ≤ 0 ↔ mkb g n = 0 := by
  have key : (decide (v_J6_bitCount_0f7a4 (mkb g n) ≤ 0)) = decide (mkb g n = 0) := by
    have h : n = 0 ∨ n = 1 ∨ n = 2 ∨ n = 3 ∨ n = 4 ∨ n = 5 ∨ n = 6 ∨ n = 7 := by omega
    rcases h with rfl | rfl | rfl | rfl | rfl | rfl | rfl | rfl
    · show decide (v_J6_bitCount_0f7a4 0 ≤ 0) = decide ((0 : Int32) = 0)
      decide +kernel
    all_goals
      unfold mkb
      try unfold mkb
      try unfold mkb
      try unfold mkb
      try unfold mkb
      try unfold mkb
      try unfold mkb
      try unfold mkb
      generalize g 0 = b0
      try generalize g 1 = b1
      try generalize g 2 = b2
      try generalize g 3 = b3
      try generalize g 4 = b4
      try generalize g 5 = b5
      try generalize g 6 = b6
    · revert b0; decide +kernel
    · revert b0 b1; decide +kernel
    · revert b0 b1 b2; decide +kernel
    · revert b0 b1 b2 b3; decide +kernel
    · revert b0 b1 b2 b3 b4; decide +kernel
    · revert b0 b1 b2 b3 b4 b5; decide +kernel
    · revert b0 b1 b2 b3 b4 b5 b6; decide +kernel
  simpa using key
theorem call_crowd (h : Sim σ R μ) : Call (p_X11_crowd μ) (p_X12_crowd (e_X11_crowd μ)) (v_X11_crowd μ) (v_X12_crowd (e_X11_crowd μ)) (e_X12_crowd (e_X11_crowd μ)) := by
  have fC := fr_X11_crowd μ
  have m := h.m1 fC (by decide)
  have hn := h.1.g.1
  refine Two2 h fC (fs_X12_crowd _) ?_ (by decide) (by decide)
  have hc : CSR σ R μ := ⟨h.2.1, h.2.2.2.1⟩
  have hm0 : MSR σ R (upI (e_X11_crowd μ) 49 0 0) := ⟨m.1.th 0, m.2.th 0⟩
  unfold p_X12_crowd v_X12_crowd e_X12_crowd
  simp only [forall_eq]
  generalize upI (e_X11_crowd μ) 49 0 0 = μm at hm0 ⊢
  have key := lq2 (f := fun s : Int32 × Int32 × Int32 => bd_X11_crowd_7 μ s.1 s.2.1 s.2.2) (sd := fun s : Int32 × Int32 × Int32 => sd_X11_crowd_7 μ s.1 s.2.1 s.2.2) (dd := fun _ : Int32 × Int32 × Int32 => (0, 0)) (f' := fun s : Int32 × Int32 × Int32 => bd_X12_crowd_12 μm s.1 s.2.1 s.2.2) (sd' := fun s : Int32 × Int32 × Int32 => sd_X12_crowd_12 μm s.1 s.2.1 s.2.2) (dd' := fun _ : Int32 × Int32 × Int32 => (0, 0))
    (I := fun i s s' => i ≤ 19 ∧ ∃ a b, s = (v_J6_bitCount_0f7a4 a, b, pl i) ∧ s' = (a, b, pl i) ∧ (a = 0 ∨ a = staA (s_F σ) b)) (R := fun r r' => ∃ a b, r = (v_J6_bitCount_0f7a4 a, b) ∧ r' = (a, b) ∧ (a = 0 ∨ a = staA (s_F σ) b)) 19 (by omega) ?_ (s0 := (0, 0, -9)) (s0' := (0, 0, -9)) ⟨Nat.zero_le _, 0, 0, by decide +kernel, rfl, .inl rfl⟩
  · obtain ⟨k1, k2, a, b, k3, k4, k5⟩ := key
    unfold p_X11_crowd v_X11_crowd e_X11_crowd
    simp only [forall_eq]
    rw [k3, k4]
    dsimp only
    have hz : v_J6_bitCount_0f7a4 a ≤ 0 ↔ a = 0 := by
      rcases k5 with e | e
      · rw [e]; exact ⟨fun _ => rfl, fun _ => by decide +kernel⟩
      · rw [e]; exact bc_0 _ hn
    simp only [hz]
    have c1 := CSR_begin hc
    generalize e_X10_begin μ = μ1 at c1 ⊢
    obtain ⟨p2, c2⟩ := CSR_add c1 (by simp) (100 + b).toInt64
    generalize e_X10_add (100 + b).toInt64 μ1 = μ2 at c2 ⊢
    obtain ⟨p4, v4⟩ := C_standingOn c2.1.F b
    rw [v4]
    obtain ⟨p3, c3⟩ := CSR_add c2 (by simp) (staA (s_F σ) b).toInt64
    have d1 := MSR_begin hm0
    generalize upI μm 49 1 0 = ν1 at d1 ⊢
    obtain ⟨q2, d2⟩ := MSR_add d1 (by simp) (100 + b).toInt64
    generalize e_X12_enters (100 + b).toInt64 ν1 = ν2 at d2 ⊢
    obtain ⟨q3, d3⟩ := MSR_add d2 (by simp) a.toInt64
    refine ⟨⟨k1, fun _ => ⟨p2, p4, p3⟩⟩, ⟨k2, fun _ => ⟨q2, q3⟩⟩, trivial, ?_⟩
    by_cases q : a = 0
    · simp only [q, if_true]; exact ⟨_, c1.2, d1.2⟩
    · simp only [q, if_false]
      rcases k5 with e | e
      · exact absurd e q
      · rw [e] at d3 ⊢
        exact ⟨_, c3.2, d3.2⟩
  · rintro i _ _ hi ⟨hi2, a, b, rfl, rfl, hab⟩
    dsimp only
    unfold sd_X11_crowd_7 sd_X12_crowd_12 bd_X11_crowd_7 bd_X12_crowd_12
    obtain ⟨-, f2, f3⟩ := pl_f i (by omega)
    simp only [f3]
    rcases Nat.lt_or_ge 18 i with z | z
    · rw [if_pos z, if_pos z]
      exact ⟨fun y => absurd z y, fun y => absurd z y, .inr ⟨_, _, rfl, rfl, a, b, rfl, rfl, hab⟩⟩
    · obtain ⟨p1, v1⟩ := C_standingOn hc.1.F (pl i)
      obtain ⟨p2, v2⟩ := M_standingOn hm0.1.F (pl i)
      rw [if_neg (show ¬ 18 < i by omega), if_neg (show ¬ 18 < i by omega), v1, v2, f2]
      refine ⟨fun _ => p1, fun _ => p2, .inl ⟨_, _, rfl, rfl, by omega, by omega, ?_⟩⟩
      by_cases q : v_J6_bitCount_0f7a4 (staA (s_F σ) (pl i)) ≤ v_J6_bitCount_0f7a4 a
      · simp only [q, if_true]
        exact ⟨a, b, rfl, rfl, hab⟩
      · simp only [q, if_false, show ¬ ((1 : Int32) = 0) from by decide]
        exact ⟨_, _, rfl, rfl, .inr rfl⟩
end WH

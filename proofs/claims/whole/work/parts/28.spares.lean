/-! the best of those who are there -/
def bst (pr : Nat → Bool) (val : Nat → Int32) : Nat → Option (Nat × Int32)
  | 0 => none
  | i + 1 => if pr i then (match bst pr val i with
      | none => some (i, val i)
      | some (b, m) => if val i ≤ m then some (b, m) else some (i, val i)) else bst pr val i
def bI (o : Option (Nat × Int32)) : Int32 := match o with
  | none => -2
  | some (b, _) => nI b
def bM (o : Option (Nat × Int32)) (d : Int32) : Int32 := match o with
  | none => d
  | some (_, m) => m
theorem bst_lt {pr : Nat → Bool} {val : Nat → Int32} : ∀ {n : Nat} {b : Nat} {m : Int32}, bst pr val n = some (b, m) → b < n ∧ m = val b ∧ pr b = true
  | 0, _, _, h => by simp [bst] at h
  | n + 1, b, m, h => by
    unfold bst at h
    by_cases q : pr n = true
    · rw [if_pos q] at h
      cases hb : bst pr val n with
      | none => rw [hb] at h; simp at h; obtain ⟨rfl, rfl⟩ := h; exact ⟨by omega, rfl, q⟩
      | some x =>
        obtain ⟨b', m'⟩ := x
        rw [hb] at h
        dsimp only at h
        have ih := bst_lt hb
        by_cases q2 : val n ≤ m'
        · rw [if_pos q2] at h; simp at h; obtain ⟨rfl, rfl⟩ := h; exact ⟨by omega, ih.2⟩
        · rw [if_neg q2] at h; simp at h; obtain ⟨rfl, rfl⟩ := h; exact ⟨by omega, rfl, q⟩
    · rw [if_neg q] at h
      have ih := bst_lt h
      exact ⟨by omega, ih.2⟩
theorem nI_nm2 {b : Nat} (h : b < 1000) : ¬ nI b = -2 := by
  rw [fa_eq, nI_toInt (by omega), show (-2 : Int32).toInt = -2 by decide +kernel]; omega
section SP
variable {σ : ST} {R : List Int64} {μ : Mm}
def spP (σ : ST) (i : Nat) : Bool := !bt (f_o (s_F σ)) i
def spF (σ : ST) (i : Nat) : FL := goA (s_r σ) (f_z (s_F σ) - f_t (s_F σ)).toNatClampNeg (stepF (s_F σ) (nI i))
def spV (σ : ST) (i : Nat) : Int32 := momA (spF σ i)
theorem spF_rg (ok : OK σ) (i : Nat) : RgF (spF σ i) := RgF_go (RgF_step ok.g _) _
theorem step_t (F : FL) (x : Int32) : f_t (stepF F x) = f_t F := by unfold stepF; (repeat' split) <;> rfl
theorem step_z (F : FL) (x : Int32) : f_z (stepF F x) = f_z F := by unfold stepF; (repeat' split) <;> rfl
def spT (σ : ST) (R : List Int64) : List Int64 := match bst (spP σ) (spV σ) (f_n (s_F σ)) with
  | none => R
  | some (_, m) => [(2000 + m).toInt64, (2000 + momA (nnF σ)).toInt64]
theorem C_spares (ok : OK σ) (hc : CS σ μ) (tc : ToC R μ) : p_X11_spares μ ∧ v_X11_spares μ = bI (bst (spP σ) (spV σ) (f_n (s_F σ))) ∧ ToC (spT σ R) (e_X11_spares μ) := by
  have hn := ok.g.1
  have key := lpI (f := fun s : Int32 × Int32 × Int32 × Mm => bd_X11_spares_7 s.1 s.2.1 s.2.2.1 s.2.2.2) (sd := fun s : Int32 × Int32 × Int32 × Mm => sd_X11_spares_7 s.1 s.2.1 s.2.2.1 s.2.2.2) (dd := fun s : Int32 × Int32 × Int32 × Mm => (0, 0, s.2.2.2))
    (I := fun i s => ∃ μ', s = (bI (bst (spP σ) (spV σ) i), bM (bst (spP σ) (spV σ) i) 0, nI i, μ') ∧ i ≤ f_n (s_F σ) ∧ CS σ μ' ∧ ToC R μ')
    (R := fun z => z.1 = bI (bst (spP σ) (spV σ) (f_n (s_F σ))) ∧ z.2.1 = bM (bst (spP σ) (spV σ) (f_n (s_F σ))) 0 ∧ CS σ z.2.2 ∧ ToC R z.2.2) (f_n (s_F σ)) (by omega) ?_ (s0 := (-2, 0, 0, μ)) ⟨μ, rfl, Nat.zero_le _, hc, tc⟩
  · obtain ⟨k1, k2, k3, k4, k5⟩ := key
    unfold p_X11_spares v_X11_spares e_X11_spares spT
    simp only [forall_eq]
    generalize whl _ _ FU _ = z at k2 k3 k4 k5 ⊢
    rw [k2, k3]
    cases hb : bst (spP σ) (spV σ) (f_n (s_F σ)) with
    | none =>
      have e : bI none = -2 := rfl
      rw [e]
      simp only [if_true]
      exact ⟨⟨k1, fun y => absurd trivial y⟩, trivial, k5⟩
    | some x =>
      obtain ⟨b, mm⟩ := x
      have hbl := bst_lt hb
      have e : bI (some (b, mm)) = nI b := rfl
      have e2 : bM (some (b, mm)) 0 = mm := rfl
      rw [e, e2, if_neg (nI_nm2 (by omega))]
      obtain ⟨p1, h1⟩ := CTR_become ok k4 k5
      generalize e_X1_become 8 1 z.2.2 = μ2 at h1 ⊢
      have h2 := CTR_begin h1
      generalize e_X10_begin μ2 = μ3 at h2 ⊢
      obtain ⟨p3, h3⟩ := CTR_add h2 (by simp) (2000 + mm).toInt64
      generalize e_X10_add (2000 + mm).toInt64 μ3 = μ4 at h3 ⊢
      obtain ⟨p4, v4, h4⟩ := CTR_noon h3
      rw [v4]
      generalize e_X1_goTillNoon 8 15 μ4 = μ5 at h4 ⊢
      obtain ⟨p5, h5⟩ := CTR_add h4 (by simp) (2000 + momA (nnF σ)).toInt64
      exact ⟨⟨k1, fun _ => ⟨p1, p3, p4, p5⟩⟩, rfl, h5.2.2.2.2⟩
  · rintro i _ hi ⟨μ', rfl, hi2, hc', tc'⟩
    dsimp only
    unfold sd_X11_spares_7 bd_X11_spares_7
    rw [hc'.F.sz, nI_1]
    simp only [nI_leI (show f_n (s_F σ) < 2 ^ 31 by omega) (show i < 2 ^ 31 by omega), forall_eq]
    rcases Nat.lt_or_ge i (f_n (s_F σ)) with z | z
    · rw [if_neg (show ¬ f_n (s_F σ) ≤ i by omega), C_isOff hc'.F (by omega)]
      simp only [one0]
      obtain ⟨p1, h1⟩ := CTR_become ok hc' tc'
      generalize e_X1_become 8 1 μ' = μ2 at h1 ⊢
      have h2 : CTR σ (stepF (s_F σ) (nI i)) R (e_X1_stepOffOrOn 8 (nI i) μ2) := by
        have f := fr_X1_stepOffOrOn 8 (nI i) μ2
        exact ⟨ok, RgF_step ok.g _, h1.2.2.1.fr f (by decide), (C_step h1.2.2.2.1 (nI i)).2, h1.2.2.2.2.fr f (by decide)⟩
      generalize e_X1_stepOffOrOn 8 (nI i) μ2 = μ3 at h2 ⊢
      obtain ⟨p4, v4, h4⟩ := CTR_noon h2
      rw [step_t, step_z] at v4 h4
      have v5 : v_X1_goTillNoon 8 15 μ3 = spV σ i := v4
      rw [v5]
      generalize e_X1_goTillNoon 8 15 μ3 = μ5 at h4 ⊢
      refine ⟨fun _ _ => ⟨p1, p4⟩, .inl ⟨_, rfl, z, (if ¬ bt (f_o (s_F σ)) i = true then μ5 else μ'), ?_, by omega, ?_⟩⟩
      · have eb : bst (spP σ) (spV σ) (i + 1) = if spP σ i then (match bst (spP σ) (spV σ) i with
            | none => some (i, spV σ i)
            | some (b, m) => if spV σ i ≤ m then some (b, m) else some (i, spV σ i)) else bst (spP σ) (spV σ) i := rfl
        rw [eb]
        unfold spP
        cases ho : bt (f_o (s_F σ)) i
        · simp only [Bool.false_eq_true, not_false_eq_true, if_true, Bool.not_false]
          cases hb : bst (spP σ) (spV σ) i with
          | none =>
            unfold spP at hb
            simp only [hb, bI, bM, if_true]
          | some x =>
            obtain ⟨b, mm⟩ := x
            have hbl := bst_lt hb
            unfold spP at hb
            simp only [hb, bI, bM, if_neg (nI_nm2 (show b < 1000 by omega))]
            by_cases q : spV σ i ≤ mm <;> simp [q]
        · simp only [not_true_eq_false, if_false, Bool.not_true, Bool.false_eq_true]
      · by_cases q : bt (f_o (s_F σ)) i = true
        · simp only [q, not_true_eq_false, if_false]; exact ⟨hc', tc'⟩
        · simp only [q, if_true, not_false_eq_true]; exact ⟨h4.2.2.1, h4.2.2.2.2⟩
    · have : i = f_n (s_F σ) := by omega
      subst this
      rw [if_pos (Nat.le_refl _)]
      exact ⟨fun y => absurd (Nat.le_refl _) y, .inr ⟨_, rfl, rfl, rfl, hc', tc'⟩⟩
theorem M_spares (ok : OK σ) (hm : MS σ μ) (tm : ToM R μ) : p_X12_spares μ ∧ v_X12_spares μ = bI (bst (spP σ) (spV σ) (f_n (s_F σ))) ∧ ToM (spT σ R) (e_X12_spares μ) := by
  have hn := ok.g.1
  unfold p_X12_spares v_X12_spares e_X12_spares
  simp only [forall_eq]
  have hm0 := hm.th 0
  have tm0 := tm.th 0
  generalize upI μ 49 0 0 = μ0 at hm0 tm0 ⊢
  have key := lpI (f := fun s : Int32 × Int32 × Int32 × Mm => bd_X12_spares_14 s.1 s.2.1 s.2.2.1 s.2.2.2) (sd := fun s : Int32 × Int32 × Int32 × Mm => sd_X12_spares_14 s.1 s.2.1 s.2.2.1 s.2.2.2) (dd := fun s : Int32 × Int32 × Int32 × Mm => (0, 0, s.2.2.2))
    (I := fun i s => ∃ μ', s = (bI (bst (spP σ) (spV σ) i), bM (bst (spP σ) (spV σ) i) (-1000000), nI i, μ') ∧ i ≤ f_n (s_F σ) ∧ MS σ μ' ∧ ToM R μ')
    (R := fun z => z.1 = bI (bst (spP σ) (spV σ) (f_n (s_F σ))) ∧ z.2.1 = bM (bst (spP σ) (spV σ) (f_n (s_F σ))) (-1000000) ∧ MS σ z.2.2 ∧ ToM R z.2.2) (f_n (s_F σ)) (by omega) ?_ (s0 := (-2, -1000000, 0, μ0)) ⟨μ0, rfl, Nat.zero_le _, hm0, tm0⟩
  · obtain ⟨k1, k2, k3, k4, k5⟩ := key
    unfold spT
    generalize whl _ _ FU _ = z at k2 k3 k4 k5 ⊢
    rw [k2, k3]
    cases hb : bst (spP σ) (spV σ) (f_n (s_F σ)) with
    | none =>
      have e : bI none = -2 := rfl
      have e2 : ((-2 : Int32) < 0) := by decide
      rw [e, if_pos e2]
      exact ⟨⟨k1, fun y => absurd e2 y⟩, rfl, k5⟩
    | some x =>
      obtain ⟨b, mm⟩ := x
      have hbl := bst_lt hb
      have e : bI (some (b, mm)) = nI b := rfl
      have e2 : bM (some (b, mm)) (-1000000) = mm := rfl
      rw [e, e2, if_neg (nI_pos (by omega))]
      obtain ⟨p1, h1⟩ := MTR_noon ok k4 k5
      generalize e_X12_goesToNoon z.2.2 = μ2 at h1 ⊢
      have h2 := MTR_begin h1
      generalize upI μ2 49 1 0 = μ3 at h2 ⊢
      obtain ⟨p3, h3⟩ := MTR_add h2 (by simp) (2000 + mm).toInt64
      generalize e_X12_enters (2000 + mm).toInt64 μ3 = μ4 at h3 ⊢
      obtain ⟨p4, v4⟩ := MTR_mom h3
      rw [v4]
      obtain ⟨p5, h5⟩ := MTR_add h3 (by simp) (2000 + momA (nnF σ)).toInt64
      exact ⟨⟨k1, fun _ => ⟨p1, p3, p4, p5⟩⟩, rfl, h5.2.2.2.2⟩
  · rintro i _ hi ⟨μ', rfl, hi2, hm', tm'⟩
    dsimp only
    unfold sd_X12_spares_14 bd_X12_spares_14
    rw [hm'.F.sz, nI_1]
    simp only [nI_leI (show f_n (s_F σ) < 2 ^ 31 by omega) (show i < 2 ^ 31 by omega), forall_eq]
    rcases Nat.lt_or_ge i (f_n (s_F σ)) with z | z
    · rw [if_neg (show ¬ f_n (s_F σ) ≤ i by omega), M_here hm'.F, has_b _ (by omega), bt_pre hn (by omega), decide_eq_true z]
      simp only [one0, Bool.true_and]
      obtain ⟨p1, h1⟩ := MTR_copies ok hm' tm'
      generalize e_X12_copies μ' = μ2 at h1 ⊢
      have h2 : MTR σ (stepF (s_F σ) (nI i)) R (e_X12_stepsOff 53 (nI i) μ2) := by
        have f := fs_X12_stepsOff 53 (nI i) μ2
        exact ⟨ok, RgF_step ok.g _, h1.2.2.1.fs f (by decide), (M_step h1.2.2.2.1 (.inr rfl) (nI i)).2, h1.2.2.2.2.fs f (by decide)⟩
      generalize e_X12_stepsOff 53 (nI i) μ2 = μ3 at h2 ⊢
      rw [cl23, cl22, h2.2.2.2.1.z, h2.2.2.2.1.t, step_t, step_z]
      obtain ⟨p4, -, h4⟩ := MTR_go h2 (if 0 < (f_z (s_F σ) - f_t (s_F σ)) then (f_z (s_F σ) - f_t (s_F σ)) else 0)
      rw [cl_max] at h4
      have h4' : MTR σ (spF σ i) R (e_X12_goesOn 53 (if 0 < (f_z (s_F σ) - f_t (s_F σ)) then (f_z (s_F σ) - f_t (s_F σ)) else 0) μ3) := h4
      generalize e_X12_goesOn 53 (if 0 < (f_z (s_F σ) - f_t (s_F σ)) then (f_z (s_F σ) - f_t (s_F σ)) else 0) μ3 = μ5 at h4' ⊢
      obtain ⟨p6, v6⟩ := MTR_mom h4'
      have v7 : v_X12_moment 53 μ5 = spV σ i := v6
      rw [v7]
      have hrg := momA_rg (spF_rg ok i)
      have hrg' : -1134 ≤ (spV σ i).toInt := hrg.1
      refine ⟨fun _ _ => ⟨p1, p4, p6, p6⟩, .inl ⟨_, rfl, z, (if ¬ (!bt (f_o (s_F σ)) i) = true then μ' else μ5), ?_, by omega, ?_⟩⟩
      · have eb : bst (spP σ) (spV σ) (i + 1) = if spP σ i then (match bst (spP σ) (spV σ) i with
            | none => some (i, spV σ i)
            | some (b, m) => if spV σ i ≤ m then some (b, m) else some (i, spV σ i)) else bst (spP σ) (spV σ) i := rfl
        rw [eb]
        have es : spP σ i = !bt (f_o (s_F σ)) i := rfl
        rw [es]
        cases ho : bt (f_o (s_F σ)) i
        · simp only [Bool.not_false, not_true_eq_false, if_false, if_true]
          cases hb : bst (spP σ) (spV σ) i with
          | none =>
            have g1 : ¬ (spV σ i ≤ -1000000) := by rw [fa_le, show (-1000000 : Int32).toInt = -1000000 by decide +kernel]; omega
            have g2 : (-1000000 : Int32) < spV σ i := by rw [fa_lt, show (-1000000 : Int32).toInt = -1000000 by decide +kernel]; omega
            have e1 : bM (none : Option (Nat × Int32)) (-1000000) = -1000000 := rfl
            have e2 : bI none = -2 := rfl
            have e3 : bI (some (i, spV σ i)) = nI i := rfl
            have e4 : bM (some (i, spV σ i)) (-1000000) = spV σ i := rfl
            dsimp only
            rw [e1, e2, e3, e4, if_neg g1, if_pos g2]
          | some x =>
            obtain ⟨b, mm⟩ := x
            simp only [bI, bM]
            by_cases q : spV σ i ≤ mm
            · have q2 : ¬ mm < spV σ i := by rw [fa_lt]; rw [fa_le] at q; omega
              simp only [q, q2, if_true, if_false]
            · have q2 : mm < spV σ i := by rw [fa_lt]; rw [fa_le] at q; omega
              simp only [q, q2, if_true, if_false]
        · simp only [Bool.not_true, Bool.false_eq_true, not_false_eq_true, if_true, if_false]
      · by_cases q : bt (f_o (s_F σ)) i = true
        · simp only [q, Bool.not_true, Bool.false_eq_true, not_false_eq_true, if_true]; exact ⟨hm', tm'⟩
        · simp only [Bool.not_eq_true] at q
          simp only [q, Bool.not_false, not_true_eq_false, if_false]; exact ⟨h4'.2.2.1, h4'.2.2.2.2⟩
    · have : i = f_n (s_F σ) := by omega
      subst this
      rw [if_pos (Nat.le_refl _)]
      exact ⟨fun y => absurd (Nat.le_refl _) y, .inr ⟨_, rfl, rfl, rfl, hm', tm'⟩⟩
theorem call_spares (h : Sim σ R μ) : Call (p_X11_spares μ) (p_X12_spares (e_X11_spares μ)) (v_X11_spares μ) (v_X12_spares (e_X11_spares μ)) (e_X12_spares (e_X11_spares μ)) := by
  have fC := fr_X11_spares μ
  have m := h.m1 fC (by decide)
  exact Two h fC (fs_X12_spares _) (C_spares h.1 h.2.1 h.2.2.2.1) (M_spares h.1 m.1 m.2) (by decide) (by decide)
/-! years -/
theorem drN_ex (s : Int32) : ∃ t : Int32, t = s * 1103515245 + 12345 := ⟨_, rfl⟩
noncomputable def drN (s : Int32) : Int32 := Classical.choose (drN_ex s)
theorem drN_eq (s : Int32) : drN s = s * 1103515245 + 12345 := Classical.choose_spec (drN_ex s)
theorem drV_ex (s n : Int32) : ∃ t : Int32, t = (Int32.toUInt32 s >>> (Int32.toUInt32 16 &&& Int32.toUInt32 31)).toInt32 - (Int32.toUInt32 s >>> (Int32.toUInt32 16 &&& Int32.toUInt32 31)).toInt32 / n * n := ⟨_, rfl⟩
noncomputable def drV (s n : Int32) : Int32 := Classical.choose (drV_ex s n)
theorem drV_eq (s n : Int32) : drV s n = (Int32.toUInt32 s >>> (Int32.toUInt32 16 &&& Int32.toUInt32 31)).toInt32 - (Int32.toUInt32 s >>> (Int32.toUInt32 16 &&& Int32.toUInt32 31)).toInt32 / n * n := Classical.choose_spec (drV_ex s n)
theorem drV_lt (s : Int32) {n : Nat} (h0 : 0 < n) (hn : n < 1000) : ∃ k, k < n ∧ drV s (nI n) = nI k := by
  have e : (Int32.toUInt32 s >>> (Int32.toUInt32 16 &&& Int32.toUInt32 31)).toInt32 = nI (s.toBitVec.toNat / 2 ^ 16) := by
    apply Int32.toBitVec_inj.mp
    apply BitVec.eq_of_toNat_eq
    rw [pk_ushr s 16 16 (by decide +kernel)]
    show _ = (BitVec.ofNat 32 _).toNat
    rw [BitVec.toNat_ofNat, Nat.mod_eq_of_lt]
    have := s.toBitVec.isLt
    omega
  have hb : s.toBitVec.toNat / 2 ^ 16 < 2 ^ 31 := by
    have := s.toBitVec.isLt
    omega
  rw [drV_eq, e, pk_rem hb h0 (by omega)]
  exact ⟨_, Nat.mod_lt _ h0, rfl⟩
noncomputable def yrS (r : List Nat) (x : Int32 × FL) : Int32 × FL :=
  if 2 ≤ drV (drN x.1) 4 then (if f_n x.2 = 0 then (drN x.1, x.2) else if drV (drN x.1) 4 = 2 then (drN (drN (drN x.1)), sackF x.2 (drV (drN (drN x.1)) (nI (f_n x.2))) (drV (drN (drN (drN x.1))) 10)) else (drN (drN x.1), stepF x.2 (drV (drN (drN x.1)) (nI (f_n x.2))))) else (drN x.1, pasA r x.2)
noncomputable def yrN (r : List Nat) (s : Int32) (F : FL) : Nat → Int32 × FL
  | 0 => (s, F)
  | n + 1 => yrS r (yrN r s F n)
noncomputable def yrC (r : List Nat) (s : Int32) (F : FL) (n : Nat) : Int32 := sm (fun i => if momA (yrN r s F (i + 1)).2 ≤ 0 then 0 else 1) n
theorem RgF_yr {r : List Nat} {x : Int32 × FL} (h : RgF x.2) : RgF (yrS r x).2 := by
  unfold yrS
  (repeat' split)
  · exact h
  · exact RgF_sack h _ _
  · exact RgF_step h _
  · exact RgF_pas h
theorem RgF_yrN {r : List Nat} {s : Int32} {F : FL} (h : RgF F) : ∀ n, RgF (yrN r s F n).2
  | 0 => h
  | n + 1 => RgF_yr (RgF_yrN h n)
variable {F : FL}
theorem C_below {s : Int32} (h : CTR σ F R μ) (hs : μ.1 45 0 = s) {n : Nat} (h0 : 0 < n) (hn : n < 1000) : p_X0_below (nI n) μ ∧ v_X0_below (nI n) μ = drV (drN s) (nI n) ∧ CTR σ F R (e_X0_below (nI n) μ) ∧ (e_X0_below (nI n) μ).1 45 0 = drN s := by
  have f := fr_X0_below (nI n) μ
  unfold p_X0_below v_X0_below
  have g : ¬ (nI n ≤ 0) := nI_nle h0 (by omega)
  refine ⟨fun _ _ _ => nI_ne0 h0 (by omega), ?_, ⟨h.1, h.2.1, h.2.2.1.fr f (by decide), h.2.2.2.1.fr f (by decide), h.2.2.2.2.fr f (by decide)⟩, ?_⟩
  · dsimp only
    rw [if_neg g, rI, if_pos ⟨rfl, rfl⟩, hs, ← drN_eq, ← drV_eq]
  · unfold e_X0_below
    dsimp only
    rw [rI, if_pos ⟨rfl, rfl⟩, hs, ← drN_eq]
theorem C_dY3 {s : Int32} (h : CTR σ F R μ) (p1 : p_X0_below 4 μ) (h1 : CTR σ F R (e_X0_below 4 μ)) (s1 : (e_X0_below 4 μ).1 45 0 = drN s) : p_X11_drawYear μ := by
  have hn := h.2.1.1
  unfold p_X11_drawYear
  refine ⟨p1, fun μ2 e2 => ?_⟩
  rw [← e2] at h1 s1
  rw [h1.2.2.2.1.sz]
  refine ⟨fun _ g => ?_, fun _ => (CTR_pass h1).1⟩
  have q0 : f_n F ≠ 0 := fun y => g (by rw [y, nI_0]; decide)
  obtain ⟨p2, v2, h2, s2⟩ := C_below h1 s1 (n := f_n F) (by omega) (by omega)
  refine ⟨p2, fun μ6 e6 _ => ?_⟩
  rw [← e6] at h2 s2
  obtain ⟨p3, v3, h3, s3⟩ := C_below h2 s2 (n := 10) (by omega) (by omega)
  have e10 : nI 10 = 10 := rfl
  rw [e10] at p3 h3
  refine ⟨p3, fun μ9 e9 => ?_⟩
  rw [← e9] at h3
  exact (C_burden h3.2.2.2.1 _ _).1
def dyG (c n : Int32) (A B C D : Mm) : Mm := if 2 ≤ c then (if n ≤ 0 then A else if c = 2 then B else C) else D
theorem dyG_e (μ : Mm) : e_X11_drawYear μ = dyG (v_X0_below 4 μ) ((e_X0_below 4 μ).1 8 0) (e_X0_below 4 μ) (e_X1_burden 8 (v_X0_below ((e_X0_below 4 μ).1 8 0) (e_X0_below 4 μ)) (v_X0_below 10 (e_X0_below ((e_X0_below 4 μ).1 8 0) (e_X0_below 4 μ))) (e_X0_below 10 (e_X0_below ((e_X0_below 4 μ).1 8 0) (e_X0_below 4 μ)))) (e_X1_stepOffOrOn 8 (v_X0_below ((e_X0_below 4 μ).1 8 0) (e_X0_below 4 μ)) (e_X0_below ((e_X0_below 4 μ).1 8 0) (e_X0_below 4 μ))) (e_X1_pass 8 15 (e_X0_below 4 μ)) := rfl
theorem C_dY5 {s : Int32} (h : CTR σ F R μ) (v1 : v_X0_below 4 μ = drV (drN s) 4) (h1 : CTR σ F R (e_X0_below 4 μ)) (s1 : (e_X0_below 4 μ).1 45 0 = drN s) : CTR σ (yrS (s_r σ) (s, F)).2 R (e_X11_drawYear μ) ∧ (e_X11_drawYear μ).1 45 0 = (yrS (s_r σ) (s, F)).1 := by
  have hn := h.2.1.1
  rw [dyG_e, v1]
  generalize e_X0_below 4 μ = μ2 at h1 s1 ⊢
  rw [h1.2.2.2.1.sz]
  unfold yrS
  dsimp only
  generalize drN s = sa at s1 ⊢
  generalize drV sa 4 = d4
  obtain ⟨pp, vp, hp⟩ := CTR_pass h1
  have sp : (e_X1_pass 8 15 μ2).1 45 0 = sa := by rw [(fr_X1_pass 8 15 μ2).1 45 (by simp)]; exact s1
  unfold dyG
  by_cases q : 2 ≤ d4
  · simp only [if_pos q]
    by_cases q0 : f_n F = 0
    · have g : nI (f_n F) ≤ 0 := by rw [q0, nI_0]; decide
      simp only [if_pos g, q0, if_true]
      exact ⟨h1, s1⟩
    · have g : ¬ nI (f_n F) ≤ 0 := nI_nle (by omega) (by omega)
      simp only [if_neg g, q0, if_false]
      obtain ⟨p2, v2, h2, s2⟩ := C_below h1 s1 (n := f_n F) (by omega) (by omega)
      rw [v2]
      generalize drN sa = sb at v2 s2 ⊢
      clear v2
      generalize drV sb (nI (f_n F)) = dn
      generalize e_X0_below (nI (f_n F)) μ2 = μ3 at h2 s2 ⊢
      obtain ⟨p3, v3, h3, s3⟩ := C_below h2 s2 (n := 10) (by omega) (by omega)
      have e10 : nI 10 = 10 := rfl
      rw [e10] at p3 v3 h3 s3
      rw [v3]
      generalize drN sb = sc at v3 s3 ⊢
      clear v3
      generalize drV sc 10 = dk
      generalize e_X0_below 10 μ3 = μ4 at h3 s3 ⊢
      obtain ⟨p5, v5, h5⟩ := C_burden h3.2.2.2.1 dn dk
      have f5 := fr_X1_burden 8 dn dk μ4
      have f6 := fr_X1_stepOffOrOn 8 dn μ3
      have h6 := (C_step h2.2.2.2.1 dn).2
      by_cases q2 : d4 = 2
      · simp only [if_pos q2]
        exact ⟨⟨h3.1, RgF_sack h3.2.1 _ _, h3.2.2.1.fr f5 (by decide), h5, h3.2.2.2.2.fr f5 (by decide)⟩, by rw [f5.1 45 (by simp)]; exact s3⟩
      · simp only [if_neg q2]
        exact ⟨⟨h2.1, RgF_step h2.2.1 _, h2.2.2.1.fr f6 (by decide), h6, h2.2.2.2.2.fr f6 (by decide)⟩, by rw [f6.1 45 (by simp)]; exact s2⟩
  · simp only [if_neg q]
    exact ⟨hp, sp⟩
theorem C_drawYear {s : Int32} (h : CTR σ F R μ) (hs : μ.1 45 0 = s) : p_X11_drawYear μ ∧ CTR σ (yrS (s_r σ) (s, F)).2 R (e_X11_drawYear μ) ∧ (e_X11_drawYear μ).1 45 0 = (yrS (s_r σ) (s, F)).1 := by
  obtain ⟨p1, v1, h1, s1⟩ := C_below h hs (n := 4) (by omega) (by omega)
  have e4 : nI 4 = 4 := rfl
  rw [e4] at p1 v1 h1 s1
  exact ⟨C_dY3 h p1 h1 s1, C_dY5 h v1 h1 s1⟩
noncomputable def yrV (σ : ST) (s n : Int32) : Int32 := if inB n 1 60 then 2000 + momA (yrN (s_r σ) s (s_F σ) n.toNatClampNeg).2 else -1
noncomputable def yrT (σ : ST) (s n : Int32) (R : List Int64) : List Int64 := if inB n 1 60 then [(yrC (s_r σ) s (s_F σ) n.toNatClampNeg).toInt64, (preA (yrN (s_r σ) s (s_F σ) n.toNatClampNeg).2).toInt64] else R
theorem C_years (ok : OK σ) (hc : CS σ μ) (tc : ToC R μ) (s n : Int32) : p_X11_years s n μ ∧ v_X11_years s n μ = yrV σ s n ∧ ToC (yrT σ s n R) (e_X11_years s n μ) := by
  obtain ⟨p1, h1⟩ := CTR_become ok hc tc
  have hx := cl_lt n
  unfold p_X11_years v_X11_years e_X11_years yrV yrT
  rw [ite_in t1 t60, ite_in t1 t60]
  simp only [forall_eq]
  generalize e_X1_become 8 1 μ = μ2 at h1 ⊢
  have f0 := fr_X0_start s μ2
  have s0 : (e_X0_start s μ2).1 45 0 = s := by unfold e_X0_start; dsimp only; rw [rI, if_pos ⟨rfl, rfl⟩]
  have h2 : CTR σ (s_F σ) R (e_X0_start s μ2) := ⟨ok, h1.2.1, h1.2.2.1.fr f0 (by decide), h1.2.2.2.1.fr f0 (by decide), h1.2.2.2.2.fr f0 (by decide)⟩
  generalize e_X0_start s μ2 = μ3 at s0 h2 ⊢
  have key := lpI (f := fun s : Int32 × Int32 × Int32 × Mm => bd_X11_years_37 s.1 s.2.1 s.2.2.1 s.2.2.2) (sd := fun s : Int32 × Int32 × Int32 × Mm => sd_X11_years_37 s.1 s.2.1 s.2.2.1 s.2.2.2) (dd := fun s : Int32 × Int32 × Int32 × Mm => (0, s.2.2.2))
    (I := fun i x => ∃ μ', x = (n, yrC (s_r σ) s (s_F σ) i, nI i, μ') ∧ i ≤ n.toNatClampNeg ∧ CTR σ (yrN (s_r σ) s (s_F σ) i).2 R μ' ∧ μ'.1 45 0 = (yrN (s_r σ) s (s_F σ) i).1)
    (R := fun z => z.1 = yrC (s_r σ) s (s_F σ) n.toNatClampNeg ∧ CTR σ (yrN (s_r σ) s (s_F σ) n.toNatClampNeg).2 R z.2) n.toNatClampNeg (by omega) ?_ (s0 := (n, 0, 0, μ3)) ⟨μ3, rfl, Nat.zero_le _, h2, s0⟩
  · obtain ⟨k1, k2, k3⟩ := key
    generalize whl _ _ FU _ = z at k2 k3 ⊢
    rw [k2]
    have h4 := CTR_begin k3
    generalize e_X10_begin z.2 = μ4 at h4 ⊢
    obtain ⟨p5, h5⟩ := CTR_add h4 (by simp) (yrC (s_r σ) s (s_F σ) n.toNatClampNeg).toInt64
    generalize e_X10_add (yrC (s_r σ) s (s_F σ) n.toNatClampNeg).toInt64 μ4 = μ5 at h5 ⊢
    rw [C_present h5.2.2.2.1]
    obtain ⟨p6, h6⟩ := CTR_add h5 (by simp) (preA (yrN (s_r σ) s (s_F σ) n.toNatClampNeg).2).toInt64
    generalize e_X10_add (preA (yrN (s_r σ) s (s_F σ) n.toNatClampNeg).2).toInt64 μ5 = μ6 at h6 ⊢
    obtain ⟨p7, v7⟩ := CTR_mom h6
    rw [v7]
    refine ⟨fun _ _ => ⟨p1, k1, p5, p6, p7⟩, rfl, ?_⟩
    cases inB n 1 60
    · exact tc
    · exact h6.2.2.2.2
  · rintro i _ hi ⟨μ', rfl, hi2, ht, hs⟩
    dsimp only
    unfold sd_X11_years_37 bd_X11_years_37
    rw [nI_1]
    simp only [cl_le (show i < 2 ^ 31 by omega), forall_eq]
    obtain ⟨q1, q2, q3⟩ := C_drawYear ht hs
    generalize e_X11_drawYear μ' = μ5 at q2 q3 ⊢
    obtain ⟨q4, q5⟩ := CTR_mom q2
    rw [q5]
    rcases Nat.lt_or_ge i n.toNatClampNeg with z | z
    · rw [if_neg (show ¬ n.toNatClampNeg ≤ i by omega)]
      exact ⟨fun _ => ⟨q1, q4⟩, .inl ⟨_, rfl, z, μ5, rfl, by omega, q2, q3⟩⟩
    · have : i = n.toNatClampNeg := by omega
      subst this
      rw [if_pos (Nat.le_refl _)]
      exact ⟨fun y => absurd (Nat.le_refl _) y, .inr ⟨_, rfl, rfl, ht⟩⟩
theorem M_draws {s : Int32} (h : MTR σ F R μ) (hs : μ.1 49 41 = s) {n : Nat} (h0 : 0 < n) (hn : n < 1000) : p_X12_draws (nI n) μ ∧ v_X12_draws (nI n) μ = drV (drN s) (nI n) ∧ MTR σ F R (e_X12_draws (nI n) μ) ∧ (e_X12_draws (nI n) μ).1 49 41 = drN s := by
  have f := fs_X12_draws (nI n) μ
  refine ⟨fun _ _ => nI_ne0 h0 (by omega), ?_, ⟨h.1, h.2.1, h.2.2.1.fs f (by decide), h.2.2.2.1.fs f (by decide), h.2.2.2.2.fs f (by decide)⟩, ?_⟩
  · unfold v_X12_draws
    dsimp only
    rw [rI, if_pos ⟨rfl, rfl⟩, hs, ← drN_eq, ← drV_eq]
  · unfold e_X12_draws
    dsimp only
    rw [rI, if_pos ⟨rfl, rfl⟩, hs, ← drN_eq]
theorem M_years (ok : OK σ) (hm : MS σ μ) (tm : ToM R μ) (s n : Int32) : p_X12_years s n μ ∧ v_X12_years s n μ = yrV σ s n ∧ ToM (yrT σ s n R) (e_X12_years s n μ) := by
  have hx := cl_lt n
  unfold p_X12_years v_X12_years e_X12_years yrV yrT
  simp only [forall_eq]
  have hm0 := hm.th 0
  have tm0 := tm.th 0
  generalize upI μ 49 0 0 = μ0 at hm0 tm0 ⊢
  rw [in_B s1 s60]
  have f1 : Fs [1041] μ0 (upI μ0 49 41 s) := Fs.upF Fs.rfl (by simp)
  have s1 : (upI μ0 49 41 s).1 49 41 = s := by rw [rI, if_pos ⟨rfl, rfl⟩]
  have hm1 := hm0.fs f1 (by decide)
  have tm1 := tm0.fs f1 (by decide)
  generalize upI μ0 49 41 s = μ1 at s1 hm1 tm1 ⊢
  obtain ⟨p1, h1⟩ := MTR_copies ok hm1 tm1
  have s2 : (e_X12_copies μ1).1 49 41 = s := by rw [(fr_X12_copies μ1).1 49 (by simp)]; exact s1
  generalize e_X12_copies μ1 = μ3 at s2 h1 ⊢
  have key := lpI (f := fun s : Int32 × Int32 × Int32 × Mm => bd_X12_years_33 s.1 s.2.1 s.2.2.1 s.2.2.2) (sd := fun s : Int32 × Int32 × Int32 × Mm => sd_X12_years_33 s.1 s.2.1 s.2.2.1 s.2.2.2) (dd := fun s : Int32 × Int32 × Int32 × Mm => (0, s.2.2.2))
    (I := fun i x => ∃ μ', x = (n, yrC (s_r σ) s (s_F σ) i, nI i, μ') ∧ i ≤ n.toNatClampNeg ∧ MTR σ (yrN (s_r σ) s (s_F σ) i).2 R μ' ∧ μ'.1 49 41 = (yrN (s_r σ) s (s_F σ) i).1)
    (R := fun z => z.1 = yrC (s_r σ) s (s_F σ) n.toNatClampNeg ∧ MTR σ (yrN (s_r σ) s (s_F σ) n.toNatClampNeg).2 R z.2) n.toNatClampNeg (by omega) ?_ (s0 := (n, 0, 0, μ3)) ⟨μ3, rfl, Nat.zero_le _, h1, s2⟩
  · obtain ⟨k1, k2, k3⟩ := key
    generalize whl _ _ FU _ = z at k2 k3 ⊢
    rw [k2]
    have h4 := MTR_begin k3
    generalize upI z.2 49 1 0 = μ4 at h4 ⊢
    obtain ⟨p5, h5⟩ := MTR_add h4 (by simp) (yrC (s_r σ) s (s_F σ) n.toNatClampNeg).toInt64
    generalize e_X12_enters (yrC (s_r σ) s (s_F σ) n.toNatClampNeg).toInt64 μ4 = μ5 at h5 ⊢
    rw [M_here h5.2.2.2.1]
    obtain ⟨p6, h6⟩ := MTR_add h5 (by simp) (preA (yrN (s_r σ) s (s_F σ) n.toNatClampNeg).2).toInt64
    generalize e_X12_enters (preA (yrN (s_r σ) s (s_F σ) n.toNatClampNeg).2).toInt64 μ5 = μ6 at h6 ⊢
    obtain ⟨p7, v7⟩ := MTR_mom h6
    rw [v7]
    refine ⟨fun _ => ⟨p1, k1, p5, p6, p7⟩, ?_, ?_⟩
    · cases inB n 1 60 <;> rfl
    · cases inB n 1 60
      · exact tm0
      · exact h6.2.2.2.2
  · rintro i _ hi ⟨μ', rfl, hi2, ht, hs⟩
    dsimp only
    unfold sd_X12_years_33 bd_X12_years_33
    rw [nI_1]
    simp only [cl_le (show i < 2 ^ 31 by omega), forall_eq]
    have hy : yrN (s_r σ) s (s_F σ) (i + 1) = yrS (s_r σ) (yrN (s_r σ) s (s_F σ) i) := rfl
    have hrg := RgF_yrN (r := s_r σ) (s := s) ok.g i
    have hcS : yrC (s_r σ) s (s_F σ) (i + 1) = yrC (s_r σ) s (s_F σ) i + (if momA (yrN (s_r σ) s (s_F σ) (i + 1)).2 ≤ 0 then 0 else 1) := rfl
    rw [hy] at hcS
    generalize hY : yrN (s_r σ) s (s_F σ) i = Y at ht hs hrg hcS
    obtain ⟨sy, G⟩ := Y
    dsimp only at ht hs hrg
    have hn := hrg.1
    have main : (p_X12_draws 4 μ' ∧ ((2 ≤ v_X12_draws 4 μ' → ¬ ((e_X12_draws 4 μ').1 49 3) ≤ 0 → p_X12_draws ((e_X12_draws 4 μ').1 49 3) (e_X12_draws 4 μ') ∧ (v_X12_draws 4 μ' = 2 → p_X12_draws 10 (e_X12_draws ((e_X12_draws 4 μ').1 49 3) (e_X12_draws 4 μ')) ∧ vp_in (14 + v_X12_draws ((e_X12_draws 4 μ').1 49 3) (e_X12_draws 4 μ')) 24)) ∧ (¬ 2 ≤ v_X12_draws 4 μ' → p_X12_minuteGoes 53 (e_X12_draws 4 μ')))) ∧ MTR σ (yrS (s_r σ) (sy, G)).2 R (if 2 ≤ (v_X12_draws 4 μ') then (if ((e_X12_draws 4 μ').1 49 3) ≤ 0 then (e_X12_draws 4 μ') else (if (v_X12_draws 4 μ') = 2 then ((upI ((e_X12_draws 10 ((e_X12_draws ((e_X12_draws 4 μ').1 49 3) (e_X12_draws 4 μ'))))) 53 (Int32.toNatClampNeg (14 + (v_X12_draws ((e_X12_draws 4 μ').1 49 3) (e_X12_draws 4 μ')))) (v_X12_draws 10 ((e_X12_draws ((e_X12_draws 4 μ').1 49 3) (e_X12_draws 4 μ')))))) else ((e_X12_stepsOff 53 (v_X12_draws ((e_X12_draws 4 μ').1 49 3) (e_X12_draws 4 μ')) ((e_X12_draws ((e_X12_draws 4 μ').1 49 3) (e_X12_draws 4 μ'))))) : Mm) : Mm) else ((e_X12_minuteGoes 53 (e_X12_draws 4 μ'))) : Mm) ∧ (if 2 ≤ (v_X12_draws 4 μ') then (if ((e_X12_draws 4 μ').1 49 3) ≤ 0 then (e_X12_draws 4 μ') else (if (v_X12_draws 4 μ') = 2 then ((upI ((e_X12_draws 10 ((e_X12_draws ((e_X12_draws 4 μ').1 49 3) (e_X12_draws 4 μ'))))) 53 (Int32.toNatClampNeg (14 + (v_X12_draws ((e_X12_draws 4 μ').1 49 3) (e_X12_draws 4 μ')))) (v_X12_draws 10 ((e_X12_draws ((e_X12_draws 4 μ').1 49 3) (e_X12_draws 4 μ')))))) else ((e_X12_stepsOff 53 (v_X12_draws ((e_X12_draws 4 μ').1 49 3) (e_X12_draws 4 μ')) ((e_X12_draws ((e_X12_draws 4 μ').1 49 3) (e_X12_draws 4 μ'))))) : Mm) : Mm) else ((e_X12_minuteGoes 53 (e_X12_draws 4 μ'))) : Mm).1 49 41 = (yrS (s_r σ) (sy, G)).1 := by
      obtain ⟨p1, v1, h1, s1⟩ := M_draws ht hs (n := 4) (by omega) (by omega)
      have e4 : nI 4 = 4 := rfl
      rw [e4] at p1 v1 h1 s1
      unfold yrS
      dsimp only
      rw [v1]
      generalize drN sy = sa at v1 s1 ⊢
      clear v1
      generalize drV sa 4 = d4
      generalize e_X12_draws 4 μ' = μ2 at h1 s1 ⊢
      rw [h1.2.2.2.1.sz]
      obtain ⟨pp, vp, hp⟩ := MTR_pass h1
      have sp : (e_X12_minuteGoes 53 μ2).1 49 41 = sa := by rw [(fr_X12_minuteGoes 53 μ2).1 49 (by simp)]; exact s1
      by_cases q : 2 ≤ d4
      · simp only [if_pos q]
        by_cases q0 : f_n G = 0
        · have g : nI (f_n G) ≤ 0 := by rw [q0, nI_0]; decide
          simp only [if_pos g, q0, if_true]
          refine ⟨⟨p1, fun _ y => absurd (by rw [nI_0]; decide) y, fun y => absurd q y⟩, h1, s1⟩
        · have g : ¬ nI (f_n G) ≤ 0 := nI_nle (by omega) (by omega)
          simp only [if_neg g, q0, if_false]
          obtain ⟨p2, v2, h2, s2⟩ := M_draws h1 s1 (n := f_n G) (by omega) (by omega)
          rw [v2]
          generalize drN sa = sb at v2 s2 ⊢
          clear v2
          obtain ⟨kw, kw1, kw2⟩ := drV_lt sb (n := f_n G) (by omega) (by omega)
          generalize drV sb (nI (f_n G)) = dn at kw2 ⊢
          generalize e_X12_draws (nI (f_n G)) μ2 = μ3 at h2 s2 ⊢
          obtain ⟨p3, v3, h3, s3⟩ := M_draws h2 s2 (n := 10) (by omega) (by omega)
          have e10 : nI 10 = 10 := rfl
          rw [e10] at p3 v3 h3 s3
          rw [v3]
          generalize drN sb = sc at v3 s3 ⊢
          clear v3
          obtain ⟨kv, kv1, kv2⟩ := drV_lt sc (n := 10) (by omega) (by omega)
          rw [e10] at kv2
          generalize drV sc 10 = dk at kv2 ⊢
          generalize e_X12_draws 10 μ3 = μ4 at h3 s3 ⊢
          have f6 := fs_X12_stepsOff 53 dn μ3
          have f6' := fr_X12_stepsOff 53 dn μ3
          have h6 := (M_step h2.2.2.2.1 (.inr rfl) dn).2
          have hin : vp_in (14 + dn) 24 := by rw [kw2]; exact in14 (by omega)
          refine ⟨⟨p1, fun _ _ => ⟨p2, fun _ => ⟨p3, hin⟩⟩, fun y => absurd q y⟩, ?_⟩
          by_cases q2 : d4 = 2
          · simp only [if_pos q2]
            have es : sackF G dn dk = setK G kw dk := by
              unfold sackF
              rw [kw2, hasF_nI hn kw1, kv2]
              have : inB (nI kv) 0 9 = true := by unfold inB; rw [nI_toInt (by omega)]; exact decide_eq_true (by omega)
              rw [this, nI_clamp (by omega)]; rfl
            have hg2 := RgF_sack (F := G) h3.2.1 dn dk
            rw [es] at hg2 ⊢
            rw [kw2, cl14 (by omega)]
            refine ⟨⟨h3.1, hg2, h3.2.2.1.fs (L := [53]) (Fs.rfl.up (by simp)) (by decide), h3.2.2.2.1.setK (.inr rfl) (by omega), h3.2.2.2.2.fs (S := [53]) (Fs.rfl.up (by simp)) (by decide)⟩, ?_⟩
            rw [rIc (by omega)]; exact s3
          · simp only [if_neg q2]
            exact ⟨⟨h2.1, RgF_step h2.2.1 _, h2.2.2.1.fs f6 (by decide), h6, h2.2.2.2.2.fs f6 (by decide)⟩, by rw [f6'.1 49 (by simp)]; exact s2⟩
      · simp only [if_neg q]
        exact ⟨⟨p1, fun y => absurd y q, fun _ => pp⟩, hp, sp⟩
    obtain ⟨m1, m2, m3⟩ := main
    generalize (if 2 ≤ (v_X12_draws 4 μ') then (if ((e_X12_draws 4 μ').1 49 3) ≤ 0 then (e_X12_draws 4 μ') else (if (v_X12_draws 4 μ') = 2 then ((upI ((e_X12_draws 10 ((e_X12_draws ((e_X12_draws 4 μ').1 49 3) (e_X12_draws 4 μ'))))) 53 (Int32.toNatClampNeg (14 + (v_X12_draws ((e_X12_draws 4 μ').1 49 3) (e_X12_draws 4 μ')))) (v_X12_draws 10 ((e_X12_draws ((e_X12_draws 4 μ').1 49 3) (e_X12_draws 4 μ')))))) else ((e_X12_stepsOff 53 (v_X12_draws ((e_X12_draws 4 μ').1 49 3) (e_X12_draws 4 μ')) ((e_X12_draws ((e_X12_draws 4 μ').1 49 3) (e_X12_draws 4 μ'))))) : Mm) : Mm) else ((e_X12_minuteGoes 53 (e_X12_draws 4 μ'))) : Mm) = μ5 at m2 m3 ⊢
    obtain ⟨q4, q5⟩ := MTR_mom m2
    rw [q5, flag_1]
    rcases Nat.lt_or_ge i n.toNatClampNeg with z | z
    · rw [if_neg (show ¬ n.toNatClampNeg ≤ i by omega)]
      refine ⟨fun _ => ⟨m1.1, m1.2, q4⟩, .inl ⟨_, rfl, z, μ5, ?_, by omega, ?_, ?_⟩⟩
      · rw [hcS]
      · rw [hy, hY]; exact m2
      · rw [hy, hY]; exact m3
    · have : i = n.toNatClampNeg := by omega
      subst this
      rw [if_pos (Nat.le_refl _)]
      refine ⟨fun y => absurd (Nat.le_refl _) y, .inr ⟨_, rfl, rfl, ?_⟩⟩
      rw [hY]; exact ht
theorem call_years (h : Sim σ R μ) (s n : Int32) : Call (p_X11_years s n μ) (p_X12_years s n (e_X11_years s n μ)) (v_X11_years s n μ) (v_X12_years s n (e_X11_years s n μ)) (e_X12_years s n (e_X11_years s n μ)) := by
  have fC := fr_X11_years s n μ
  have m := h.m1 fC (by decide)
  exact Two h fC (fs_X12_years s n _) (C_years h.1 h.2.1 h.2.2.2.1 s n) (M_years h.1 m.1 m.2 s n) (by decide) (by decide)
end SP

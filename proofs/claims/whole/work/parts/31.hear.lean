/-! what was heard: fits, asks -/
def soB (F : FL) (k : Nat) (w v : Int32) : Bool := if w = 0 then decide (¬ ldF F k < v) else if w = 1 then (decide (¬ f_h F k ≤ 0) == decide (v = 1)) else if w = 2 then decide (¬ absD (f_p F k) < v) else if w = 3 then (decide (¬ f_p F k ≤ 0) == decide (v = 1)) else (bt (f_o F) k == decide (v = 1))
theorem hok01 {w v : Int32} (h : hokB w v = true) (hw : w = 1 ∨ w = 3 ∨ w = 4) : v = 0 ∨ v = 1 := by
  unfold hokB at h
  rw [inB01] at h
  rcases hw with rfl | rfl | rfl <;> simpa using h
theorem hok5 {w v : Int32} (h : hokB w v = true) : w = 0 ∨ w = 1 ∨ w = 2 ∨ w = 3 ∨ w = 4 := by
  rcases w5 w with e | e | e | e | e | ⟨h0, h1, h2, h3, h4⟩
  · exact .inl e
  · exact .inr (.inl e)
  · exact .inr (.inr (.inl e))
  · exact .inr (.inr (.inr (.inl e)))
  · exact .inr (.inr (.inr (.inr e)))
  · unfold hokB at h
    simp [h0, h1, h2, h3, h4] at h
section HE
variable {σ : ST} {F : FL} {R : List Int64} {μ : Mm}
theorem C_isSo (h : FlC 1 F μ) {k : Nat} (hk : k < f_n F) (w v : Int32) (hh : hokB w v = true) : p_X2_isSo 1 (nI k) w v μ ∧ v_X2_isSo 1 (nI k) w v μ = if soB F k w v then 1 else 0 := by
  have hn := h.1
  unfold p_X2_isSo v_X2_isSo soB
  have hv := vp_in_nI (N := 7) (show k < 7 by omega) (by omega)
  refine ⟨fun _ => ⟨fun _ => (C_load h hk).1, fun _ => ⟨fun _ => hv, fun _ => ⟨fun _ => hv, fun _ _ => hv⟩⟩⟩, ?_⟩
  rw [C_has1 h hk, (C_load h hk).2, nI_clamp (by omega), h.h (by omega), h.p (by omega), C_isOff h (by omega)]
  have z1 : ¬ ((1 : Int32) = 0) := by decide
  rw [if_neg z1]
  rcases hok5 hh with rfl | rfl | rfl | rfl | rfl
  · by_cases q : ldF F k < v <;> simp [q]
  · rcases hok01 hh (by simp) with rfl | rfl <;> by_cases q : f_h F k ≤ 0 <;> simp [q]
  · unfold absD
    generalize (if 0 ≤ f_p F k then f_p F k else 0 - f_p F k) = d
    by_cases q : d < v <;> simp [q]
  · rcases hok01 hh (by simp) with rfl | rfl <;> by_cases q : f_p F k ≤ 0 <;> simp [q]
  · rcases hok01 hh (by simp) with rfl | rfl <;> cases bt (f_o F) k <;> simp
theorem M_isSo (h : FlM 52 F μ) {k : Nat} (hk : k < f_n F) (w v : Int32) (hh : hokB w v = true) : p_X12_isSo (nI k) w v ∧ v_X12_isSo (nI k) w v μ = if soB F k w v then 1 else 0 := by
  have hn := h.1
  unfold p_X12_isSo v_X12_isSo soB
  refine ⟨?_, ?_⟩
  · rcases hok5 hh with rfl | rfl | rfl | rfl | rfl <;> simp [(M_load h hk).1, vp_in_nI (N := 24) (show k < 24 by omega), in7 (show k < 17 by omega)]
  · rw [(M_load h hk).2, nI_clamp (by omega), cl7 (by omega), h.h (by omega), h.p (by omega), cl21, h.o, has_b _ (by omega)]
    rcases hok5 hh with rfl | rfl | rfl | rfl | rfl
    · by_cases q : ldF F k < v <;> simp [q]
    · rcases hok01 hh (by simp) with rfl | rfl <;> by_cases q : f_h F k ≤ 0 <;> simp [q, v_X12_flag]
    · unfold absD
      generalize (if 0 ≤ f_p F k then f_p F k else 0 - f_p F k) = d
      by_cases q : d < v <;> simp [q]
    · rcases hok01 hh (by simp) with rfl | rfl <;> by_cases q : f_p F k ≤ 0 <;> simp [q, v_X12_flag]
    · rcases hok01 hh (by simp) with rfl | rfl <;> cases bt (f_o F) k <;> simp [v_X12_flag]
def alF (F : FL) (H : List Hs) (k : Nat) : Nat → Bool
  | 0 => true
  | i + 1 => alF F H k i && soB F k (H.getD i (0, 0)).1 (H.getD i (0, 0)).2
theorem alF_ff {F : FL} {H : List Hs} {k : Nat} : ∀ {i n : Nat}, i ≤ n → alF F H k i = false → alF F H k n = false
  | i, 0, hi, h => by have : i = 0 := by omega
                      subst this; exact h
  | i, n + 1, hi, h => by
    by_cases e : i = n + 1
    · subst e; exact h
    · show (alF F H k n && _) = false
      rw [alF_ff (show i ≤ n by omega) h]; rfl
def fitA (σ : ST) : Int32 := mkb (fun k => alF (s_F σ) (s_H σ) k (s_H σ).length) (f_n (s_F σ))
theorem hok_at (ok : OK σ) {i : Nat} (hi : i < (s_H σ).length) : hokB ((s_H σ).getD i (0, 0)).1 ((s_H σ).getD i (0, 0)).2 = true := by
  refine ok.2.2.2.2.2.2 _ ?_
  rw [List.getD_eq_getElem?_getD, List.getElem?_eq_getElem hi]
  exact List.getElem_mem _
theorem C_fitting (ok : OK σ) (hc : CS σ μ) : p_X2_fitting 1 μ ∧ v_X2_fitting 1 μ = fitA σ := by
  have hn := ok.g.1
  obtain ⟨hl, h2, h3⟩ := hc.H
  have key := lpI (f := fun s : Int32 × Int32 => bd_X2_fitting_4 1 μ s.1 s.2) (sd := fun s : Int32 × Int32 => sd_X2_fitting_4 1 μ s.1 s.2) (dd := fun _ : Int32 × Int32 => 0)
    (I := fun k s => k ≤ f_n (s_F σ) ∧ s = (mkb (fun k => alF (s_F σ) (s_H σ) k (s_H σ).length) k, nI k))
    (R := fun z => z = fitA σ) (f_n (s_F σ)) (by omega) ?_ (s0 := (0, 0)) ⟨Nat.zero_le _, rfl⟩
  · exact key
  · rintro k _ hk ⟨hk2, rfl⟩
    dsimp only
    unfold sd_X2_fitting_4 bd_X2_fitting_4
    rw [hc.F.sz]
    simp only [nI_leI (show f_n (s_F σ) < 2 ^ 31 by omega) (show k < 2 ^ 31 by omega)]
    rcases Nat.lt_or_ge k (f_n (s_F σ)) with y | y
    · rw [if_neg (show ¬ f_n (s_F σ) ≤ k by omega)]
      obtain ⟨B, hB⟩ : ∃ B, B = mkb (fun k => alF (s_F σ) (s_H σ) k (s_H σ).length) k := ⟨_, rfl⟩
      rw [← hB]
      have k2 := lpI (f := fun s : Int32 × Int32 × Int32 × Int32 => bd_X2_fitting_18 1 μ s.1 s.2.1 s.2.2.1 s.2.2.2) (sd := fun s : Int32 × Int32 × Int32 × Int32 => sd_X2_fitting_18 1 μ s.1 s.2.1 s.2.2.1 s.2.2.2) (dd := fun _ : Int32 × Int32 × Int32 × Int32 => (0, 0, 0))
        (I := fun i s => i ≤ (s_H σ).length ∧ s = (B, nI k, (if alF (s_F σ) (s_H σ) k i then 1 else 0), nI i))
        (R := fun z => z = (B, nI k, (if alF (s_F σ) (s_H σ) k (s_H σ).length then 1 else 0))) (s_H σ).length (by omega) ?_ (s0 := (B, nI k, 1, 0)) ⟨Nat.zero_le _, rfl⟩
      · obtain ⟨k1, k3⟩ := k2
        rw [k3, nI_1]
        refine ⟨fun _ => k1, .inl ⟨_, rfl, y, by omega, ?_⟩⟩
        simp only [mkb]
        rw [← hB]
        by_cases q : alF (s_F σ) (s_H σ) k (s_H σ).length = true <;> simp [q]
      · rintro i _ hi ⟨hi2, rfl⟩
        dsimp only
        unfold sd_X2_fitting_18 bd_X2_fitting_18
        rw [h2, nI_1]
        simp only [nI_leI (show (s_H σ).length < 2 ^ 31 by omega) (show i < 2 ^ 31 by omega), nI_clamp (show i < 2 ^ 31 by omega), one0]
        rcases Nat.lt_or_ge i (s_H σ).length with x | x
        · obtain ⟨p1, v1⟩ := C_isSo hc.F y _ _ (hok_at ok x)
          rw [if_neg (show ¬ (s_H σ).length ≤ i by omega), (h3 i x).1, (h3 i x).2, v1]
          refine ⟨fun _ _ => ⟨vp_in_nI (by omega) (by omega), vp_in_nI (by omega) (by omega), p1⟩, ?_⟩
          cases ha : alF (s_F σ) (s_H σ) k i
          · simp only [Bool.false_eq_true, not_false_eq_true, if_true, if_false]
            exact .inr ⟨_, rfl, by rw [alF_ff hi2 ha]; rfl⟩
          · simp only [not_true_eq_false, if_false]
            refine .inl ⟨_, rfl, x, by omega, ?_⟩
            show _ = (B, nI k, (if (alF (s_F σ) (s_H σ) k i && soB (s_F σ) k ((s_H σ).getD i (0, 0)).1 ((s_H σ).getD i (0, 0)).2) then (1 : Int32) else 0), nI (i + 1))
            rw [ha, Bool.true_and]
        · have : i = (s_H σ).length := by omega
          subst this
          rw [if_pos (Nat.le_refl _)]
          exact ⟨fun y => absurd (Nat.le_refl _) y, .inr ⟨_, rfl, rfl⟩⟩
    · have : k = f_n (s_F σ) := by omega
      subst this
      rw [if_pos (Nat.le_refl _)]
      exact ⟨fun y => absurd (Nat.le_refl _) y, .inr ⟨_, rfl, rfl⟩⟩
theorem M_fitting (ok : OK σ) (hm : MS σ μ) : p_X12_fitting μ ∧ v_X12_fitting μ = fitA σ := by
  have hn := ok.g.1
  obtain ⟨hl, h2, h3⟩ := hm.H
  have key := lpI (f := fun s : Int32 × Int32 => bd_X12_fitting_4 μ s.1 s.2) (sd := fun s : Int32 × Int32 => sd_X12_fitting_4 μ s.1 s.2) (dd := fun _ : Int32 × Int32 => 0)
    (I := fun k s => k ≤ f_n (s_F σ) ∧ s = (mkb (fun k => alF (s_F σ) (s_H σ) k (s_H σ).length) k, nI k))
    (R := fun z => z = fitA σ) (f_n (s_F σ)) (by omega) ?_ (s0 := (0, 0)) ⟨Nat.zero_le _, rfl⟩
  · exact key
  · rintro k _ hk ⟨hk2, rfl⟩
    dsimp only
    unfold sd_X12_fitting_4 bd_X12_fitting_4
    rw [hm.F.sz]
    simp only [nI_leI (show f_n (s_F σ) < 2 ^ 31 by omega) (show k < 2 ^ 31 by omega)]
    rcases Nat.lt_or_ge k (f_n (s_F σ)) with y | y
    · rw [if_neg (show ¬ f_n (s_F σ) ≤ k by omega)]
      obtain ⟨B, hB⟩ : ∃ B, B = mkb (fun k => alF (s_F σ) (s_H σ) k (s_H σ).length) k := ⟨_, rfl⟩
      rw [← hB]
      have k2 := lpI (f := fun s : Int32 × Int32 × Int32 × Int32 => bd_X12_fitting_17 μ s.1 s.2.1 s.2.2.1 s.2.2.2) (sd := fun s : Int32 × Int32 × Int32 × Int32 => sd_X12_fitting_17 μ s.1 s.2.1 s.2.2.1 s.2.2.2) (dd := fun _ : Int32 × Int32 × Int32 × Int32 => (0, 0, 0))
        (I := fun i s => i ≤ (s_H σ).length ∧ s = (B, nI k, (if alF (s_F σ) (s_H σ) k i then 1 else 0), nI i))
        (R := fun z => z = (B, nI k, (if alF (s_F σ) (s_H σ) k (s_H σ).length then 1 else 0))) (s_H σ).length (by omega) ?_ (s0 := (B, nI k, 1, 0)) ⟨Nat.zero_le _, rfl⟩
      · obtain ⟨k1, k3⟩ := k2
        rw [k3, nI_1]
        refine ⟨fun _ => k1, .inl ⟨_, rfl, y, by omega, ?_⟩⟩
        simp only [mkb]
        rw [← hB]
        by_cases q : alF (s_F σ) (s_H σ) k (s_H σ).length = true <;> simp [q]
      · rintro i _ hi ⟨hi2, rfl⟩
        dsimp only
        unfold sd_X12_fitting_17 bd_X12_fitting_17
        rw [h2, nI_1]
        simp only [nI_leI (show (s_H σ).length < 2 ^ 31 by omega) (show i < 2 ^ 31 by omega), nI_clamp (show i < 2 ^ 31 by omega), one0]
        rcases Nat.lt_or_ge i (s_H σ).length with x | x
        · obtain ⟨p1, v1⟩ := M_isSo hm.F y _ _ (hok_at ok x)
          rw [if_neg (show ¬ (s_H σ).length ≤ i by omega), (h3 i x).1, (h3 i x).2, v1]
          refine ⟨fun _ _ => ⟨vp_in_nI (by omega) (by omega), vp_in_nI (by omega) (by omega), p1⟩, .inl ⟨_, rfl, x, by omega, ?_⟩⟩
          show _ = (B, nI k, (if (alF (s_F σ) (s_H σ) k i && soB (s_F σ) k ((s_H σ).getD i (0, 0)).1 ((s_H σ).getD i (0, 0)).2) then (1 : Int32) else 0), nI (i + 1))
          cases alF (s_F σ) (s_H σ) k i <;> cases soB (s_F σ) k ((s_H σ).getD i (0, 0)).1 ((s_H σ).getD i (0, 0)).2 <;> simp
        · have : i = (s_H σ).length := by omega
          subst this
          rw [if_pos (Nat.le_refl _)]
          exact ⟨fun y => absurd (Nat.le_refl _) y, .inr ⟨_, rfl, rfl⟩⟩
    · have : k = f_n (s_F σ) := by omega
      subst this
      rw [if_pos (Nat.le_refl _)]
      exact ⟨fun y => absurd (Nat.le_refl _) y, .inr ⟨_, rfl, rfl⟩⟩
theorem call_fits (h : Sim σ R μ) : Call (p_X11_fits μ) (p_X12_fits (e_X11_fits μ)) (v_X11_fits μ) (v_X12_fits (e_X11_fits μ)) (e_X12_fits (e_X11_fits μ)) := by
  have fC := fr_X11_fits μ
  have m := h.m1 fC (by decide)
  refine Two (v := fitA σ) (R' := [(v_J6_bitCount_0f7a4 (fitA σ)).toInt64]) h fC (fs_X12_fits _) ?_ ?_ (by decide) (by decide)
  · unfold p_X11_fits v_X11_fits e_X11_fits
    simp only [forall_eq]
    obtain ⟨p1, v1⟩ := C_fitting h.1 h.2.1
    rw [v1]
    obtain ⟨p2, c2⟩ := CSR_add (CSR_begin (σ := σ) (R := R) ⟨h.2.1, h.2.2.2.1⟩) (by simp) (v_J6_bitCount_0f7a4 (fitA σ)).toInt64
    exact ⟨⟨p1, p2⟩, rfl, c2.2⟩
  · generalize e_X11_fits μ = μa at m ⊢
    unfold p_X12_fits v_X12_fits e_X12_fits
    simp only [forall_eq]
    have hm0 : MSR σ R (upI μa 49 0 0) := ⟨m.1.th 0, m.2.th 0⟩
    generalize upI μa 49 0 0 = μ0 at hm0 ⊢
    obtain ⟨p1, v1⟩ := M_fitting h.1 hm0.1
    rw [v1]
    obtain ⟨p2, c2⟩ := MSR_add (MSR_begin hm0) (by simp) (v_J6_bitCount_0f7a4 (fitA σ)).toInt64
    exact ⟨⟨p1, p2⟩, rfl, c2.2⟩
/-! asks -/
def soN (F : FL) (B w v : Int32) : Int32 := sm (fun i => if bt B i && soB F i w v then 1 else 0) (f_n F)
def lefA (F : FL) (B w v : Int32) : Int32 := if soN F B w v < v_J6_bitCount_0f7a4 B - soN F B w v then v_J6_bitCount_0f7a4 B - soN F B w v else soN F B w v
theorem C_left (h : FlC 1 F μ) (B w v : Int32) (hh : hokB w v = true) : p_X2_leftAtMost 1 B w v μ ∧ v_X2_leftAtMost 1 B w v μ = lefA F B w v := by
  have hn := h.1
  have key := lpF (f := fun s : Int32 × Int32 × Int32 × Int32 × Int32 => bd_X2_leftAtMost_6 1 μ s.1 s.2.1 s.2.2.1 s.2.2.2.1 s.2.2.2.2) (sd := fun s : Int32 × Int32 × Int32 × Int32 × Int32 => sd_X2_leftAtMost_6 1 μ s.1 s.2.1 s.2.2.1 s.2.2.2.1 s.2.2.2.2) (dd := fun _ : Int32 × Int32 × Int32 × Int32 × Int32 => (0, 0))
    (fun i => (B, w, v, sm (fun i => if bt B i && soB F i w v then 1 else 0) i, nI i)) (f_n F) (r := (B, soN F B w v)) (by omega) (fun i hi => ⟨?_, ?_⟩) ⟨?_, ?_⟩
  · refine ⟨key.1, ?_⟩
    unfold v_X2_leftAtMost lefA
    have := key.2
    simp only [sm, nI_0] at this
    rw [this]
  · intro _ _; exact (C_isSo h hi w v hh).1
  · show bd_X2_leftAtMost_6 1 μ _ _ _ _ (nI i) = _
    unfold bd_X2_leftAtMost_6
    rw [h.sz, if_neg (nI_ge hi (by omega)), nI_1, isIn_b _ (by omega), (C_isSo h hi w v hh).2]
    simp only [sm]
    cases bt B i <;> cases soB F i w v <;> simp
  · intro z; exact absurd (by show μ.1 1 0 ≤ nI (f_n F); rw [h.sz]; exact nI_le (Nat.le_refl _) (by omega)) z
  · show bd_X2_leftAtMost_6 1 μ _ _ _ _ (nI (f_n F)) = _
    unfold bd_X2_leftAtMost_6
    rw [h.sz, if_pos (nI_le (Nat.le_refl _) (by omega))]
    rfl
theorem M_soN (h : FlM 52 F μ) (B a b w v : Int32) (hh : hokB w v = true) : whP (fun s : Int32 × Int32 × Int32 × Int32 × Int32 × Int32 × Int32 => bd_X12_asks_55 μ s.1 s.2.1 s.2.2.1 s.2.2.2.1 s.2.2.2.2.1 s.2.2.2.2.2.1 s.2.2.2.2.2.2) (fun s : Int32 × Int32 × Int32 × Int32 × Int32 × Int32 × Int32 => sd_X12_asks_55 μ s.1 s.2.1 s.2.2.1 s.2.2.2.1 s.2.2.2.2.1 s.2.2.2.2.2.1 s.2.2.2.2.2.2) FU (B, a, b, w, v, 0, 0) ∧ whl (fun s : Int32 × Int32 × Int32 × Int32 × Int32 × Int32 × Int32 => bd_X12_asks_55 μ s.1 s.2.1 s.2.2.1 s.2.2.2.1 s.2.2.2.2.1 s.2.2.2.2.2.1 s.2.2.2.2.2.2) (fun _ : Int32 × Int32 × Int32 × Int32 × Int32 × Int32 × Int32 => (0, 0, 0, 0, 0, 0)) FU (B, a, b, w, v, 0, 0) = (B, a, b, w, v, soN F B w v) := by
  have hn := h.1
  refine lpF (f := fun s : Int32 × Int32 × Int32 × Int32 × Int32 × Int32 × Int32 => bd_X12_asks_55 μ s.1 s.2.1 s.2.2.1 s.2.2.2.1 s.2.2.2.2.1 s.2.2.2.2.2.1 s.2.2.2.2.2.2) (sd := fun s : Int32 × Int32 × Int32 × Int32 × Int32 × Int32 × Int32 => sd_X12_asks_55 μ s.1 s.2.1 s.2.2.1 s.2.2.2.1 s.2.2.2.2.1 s.2.2.2.2.2.1 s.2.2.2.2.2.2) (dd := fun _ : Int32 × Int32 × Int32 × Int32 × Int32 × Int32 × Int32 => (0, 0, 0, 0, 0, 0))
    (fun i => (B, a, b, w, v, sm (fun i => if bt B i && soB F i w v then 1 else 0) i, nI i)) (f_n F) (r := (B, a, b, w, v, soN F B w v)) (by omega) (fun i hi => ⟨?_, ?_⟩) ⟨?_, ?_⟩
  · intro _ _; exact (M_isSo h hi w v hh).1
  · show bd_X12_asks_55 μ _ _ _ _ _ _ (nI i) = _
    unfold bd_X12_asks_55
    rw [h.sz, if_neg (nI_ge hi (by omega)), nI_1, has_b _ (by omega), (M_isSo h hi w v hh).2]
    simp only [sm]
    cases bt B i <;> cases soB F i w v <;> simp [v_X12_flag]
  · intro z; exact absurd (by show μ.1 49 3 ≤ nI (f_n F); rw [h.sz]; exact nI_le (Nat.le_refl _) (by omega)) z
  · show bd_X12_asks_55 μ _ _ _ _ _ _ (nI (f_n F)) = _
    unfold bd_X12_asks_55
    rw [h.sz, if_pos (nI_le (Nat.le_refl _) (by omega))]
    rfl
theorem sm_01 {P : Nat → Bool} : ∀ {n : Nat}, n ≤ 1000 → 0 ≤ (sm (fun i => if P i then 1 else 0) n).toInt ∧ (sm (fun i => if P i then 1 else 0) n).toInt ≤ n
  | 0, _ => by show 0 ≤ (0 : Int32).toInt ∧ (0 : Int32).toInt ≤ ((0 : Nat) : Int); rw [t0]; omega
  | n + 1, h => by
    have ih := sm_01 (P := P) (n := n) (by omega)
    show 0 ≤ (sm (fun i => if P i then 1 else 0) n + (if P n then 1 else 0)).toInt ∧ (sm (fun i => if P i then 1 else 0) n + (if P n then 1 else 0)).toInt ≤ ((n + 1 : Nat) : Int)
    by_cases q : P n = true
    · rw [if_pos q, toInt_addS (by rw [t1]; omega), t1]; omega
    · rw [if_neg q, Int32.add_zero]; omega
theorem lef_rg (ok : OK σ) (w v : Int32) : 0 ≤ (lefA (s_F σ) (fitA σ) w v).toInt ∧ (lefA (s_F σ) (fitA σ) w v).toInt ≤ 7 := by
  have hn := ok.g.1
  have h1 := sm_01 (P := fun i => bt (fitA σ) i && soB (s_F σ) i w v) (n := f_n (s_F σ)) (by omega)
  have h2 : 0 ≤ (v_J6_bitCount_0f7a4 (fitA σ)).toInt ∧ (v_J6_bitCount_0f7a4 (fitA σ)).toInt ≤ 7 := by
    unfold fitA
    rw [bc_mkb _ hn]
    have := sm_01 (P := fun k => alF (s_F σ) (s_H σ) k (s_H σ).length) (n := f_n (s_F σ)) (by omega)
    omega
  unfold lefA soN
  generalize sm (fun i => if (bt (fitA σ) i && soB (s_F σ) i w v) = true then 1 else 0) (f_n (s_F σ)) = x at h1 ⊢
  generalize v_J6_bitCount_0f7a4 (fitA σ) = y at h2 ⊢
  have e : (y - x).toInt = y.toInt - x.toInt := toInt_subS (by omega)
  by_cases q : x < y - x
  · rw [if_pos q]
    rw [fa_lt] at q
    omega
  · rw [if_neg q]; omega
/-- the best question so far: which, and how many are left at most -/
def akS (σ : ST) (w v : Nat) (o : Option (Int32 × Int32)) : Option (Int32 × Int32) :=
  if hokB (nI w) (nI v) then (match o with
    | none => some (20 * nI w + nI v, lefA (s_F σ) (fitA σ) (nI w) (nI v))
    | some x => if x.2 ≤ lefA (s_F σ) (fitA σ) (nI w) (nI v) then some x else some (20 * nI w + nI v, lefA (s_F σ) (fitA σ) (nI w) (nI v))) else o
def akI (σ : ST) (w : Nat) (o : Option (Int32 × Int32)) : Nat → Option (Int32 × Int32)
  | 0 => o
  | v + 1 => akS σ w v (akI σ w o v)
def akO (σ : ST) : Nat → Option (Int32 × Int32)
  | 0 => none
  | w + 1 => akI σ w (akO σ w) 19
def akC (o : Option (Int32 × Int32)) : Int32 × Int32 := match o with
  | none => (-2, 0)
  | some x => x
def akM (o : Option (Int32 × Int32)) : Int32 × Int32 := match o with
  | none => (-1, 1000000)
  | some x => x
def akG (o : Option (Int32 × Int32)) : Prop := ∀ x, o = some x → ¬ x.1 = -2 ∧ 0 ≤ x.2.toInt ∧ x.2.toInt ≤ 7
theorem ak20 : ∀ w, w < 5 → ∀ v, v < 19 → ¬ (20 : Int32) * nI w + nI v = -2 := by decide +kernel
theorem akS_G (ok : OK σ) {w v : Nat} (hw : w < 5) (hv : v < 19) {o : Option (Int32 × Int32)} (h : akG o) : akG (akS σ w v o) := by
  intro x hx
  have hl := lef_rg ok (nI w) (nI v)
  unfold akS at hx
  by_cases q : hokB (nI w) (nI v) = true
  · rw [if_pos q] at hx
    cases o with
    | none => simp at hx; subst hx; exact ⟨ak20 w hw v hv, hl⟩
    | some y =>
      dsimp only at hx
      by_cases q2 : y.2 ≤ lefA (s_F σ) (fitA σ) (nI w) (nI v)
      · rw [if_pos q2] at hx; simp at hx; subst hx; exact h y rfl
      · rw [if_neg q2] at hx; simp at hx; subst hx; exact ⟨ak20 w hw v hv, hl⟩
  · rw [if_neg q] at hx; exact h x hx
theorem akI_G (ok : OK σ) {w : Nat} (hw : w < 5) {o : Option (Int32 × Int32)} (h : akG o) : ∀ v, v ≤ 19 → akG (akI σ w o v)
  | 0, _ => h
  | v + 1, hv => akS_G ok hw (by omega) (akI_G ok hw h v (by omega))
theorem akO_G (ok : OK σ) : ∀ w, w ≤ 5 → akG (akO σ w)
  | 0, _ => fun x hx => by simp [akO] at hx
  | w + 1, hw => akI_G ok (by omega) (akO_G ok w (by omega)) 19 (by omega)
theorem gt18 {i : Nat} (h : i < 2 ^ 31) : ((18 : Int32) < nI i) ↔ 18 < i := nI_ltI (a := 18) (by omega) h
theorem C_asks (ok : OK σ) (hc : CS σ μ) : whP (fun s : Int32 × Int32 × Int32 × Int32 => bd_X11_asks_27 μ s.1 s.2.1 s.2.2.1 s.2.2.2) (fun s : Int32 × Int32 × Int32 × Int32 => sd_X11_asks_27 μ s.1 s.2.1 s.2.2.1 s.2.2.2) FU (fitA σ, -2, 0, 0) ∧ whl (fun s : Int32 × Int32 × Int32 × Int32 => bd_X11_asks_27 μ s.1 s.2.1 s.2.2.1 s.2.2.2) (fun _ : Int32 × Int32 × Int32 × Int32 => (0, 0)) FU (fitA σ, -2, 0, 0) = akC (akO σ 5) := by
  refine lpI (f := fun s : Int32 × Int32 × Int32 × Int32 => bd_X11_asks_27 μ s.1 s.2.1 s.2.2.1 s.2.2.2) (sd := fun s : Int32 × Int32 × Int32 × Int32 => sd_X11_asks_27 μ s.1 s.2.1 s.2.2.1 s.2.2.2) (dd := fun _ : Int32 × Int32 × Int32 × Int32 => (0, 0))
    (I := fun w s => w ≤ 5 ∧ s = (fitA σ, (akC (akO σ w)).1, (akC (akO σ w)).2, nI w))
    (R := fun z => z = akC (akO σ 5)) 5 (by omega) ?_ (s0 := (fitA σ, -2, 0, 0)) ⟨Nat.zero_le _, rfl⟩
  rintro w _ hw ⟨hw2, rfl⟩
  dsimp only
  unfold sd_X11_asks_27 bd_X11_asks_27
  rw [show (5 : Int32) = nI 5 from rfl]
  simp only [nI_leI (show 5 < 2 ^ 31 by omega) (show w < 2 ^ 31 by omega)]
  rcases Nat.lt_or_ge w 5 with y | y
  · rw [if_neg (show ¬ 5 ≤ w by omega)]
    have k2 := lpI (f := fun s : Int32 × Int32 × Int32 × Int32 × Int32 => bd_X11_asks_36 μ s.1 s.2.1 s.2.2.1 s.2.2.2.1 s.2.2.2.2) (sd := fun s : Int32 × Int32 × Int32 × Int32 × Int32 => sd_X11_asks_36 μ s.1 s.2.1 s.2.2.1 s.2.2.2.1 s.2.2.2.2) (dd := fun _ : Int32 × Int32 × Int32 × Int32 × Int32 => (0, 0, 0, 0))
      (I := fun v s => v ≤ 19 ∧ s = (fitA σ, (akC (akI σ w (akO σ w) v)).1, (akC (akI σ w (akO σ w) v)).2, nI w, nI v))
      (R := fun z => z = (fitA σ, (akC (akO σ (w + 1))).1, (akC (akO σ (w + 1))).2, nI w)) 19 (by omega) ?_ (s0 := (fitA σ, (akC (akO σ w)).1, (akC (akO σ w)).2, nI w, 0)) ⟨Nat.zero_le _, rfl⟩
    · obtain ⟨k1, k3⟩ := k2
      rw [k3, nI_1]
      exact ⟨fun _ => k1, .inl ⟨_, rfl, y, by omega, rfl⟩⟩
    · rintro v _ hv ⟨hv2, rfl⟩
      dsimp only
      unfold sd_X11_asks_36 bd_X11_asks_36
      simp only [gt18 (show v < 2 ^ 31 by omega), nI_1, may_C, one0]
      rcases Nat.lt_or_ge 18 v with x | x
      · have : v = 19 := by omega
        subst this
        rw [if_pos x]
        exact ⟨fun y => absurd x y, .inr ⟨_, rfl, rfl⟩⟩
      · rw [if_neg (show ¬ 18 < v by omega)]
        refine ⟨fun _ hk => ?_, .inl ⟨_, rfl, by omega, by omega, ?_⟩⟩
        · have hk' : hokB (nI w) (nI v) = true := by
            cases q : hokB (nI w) (nI v)
            · exact absurd q (by simpa using hk)
            · rfl
          exact (C_left hc.F _ _ _ hk').1
        · have hG := akI_G ok y (akO_G ok w (by omega)) v (by omega)
          show _ = (fitA σ, (akC (akS σ w v (akI σ w (akO σ w) v))).1, (akC (akS σ w v (akI σ w (akO σ w) v))).2, nI w, nI (v + 1))
          unfold akS
          cases q : hokB (nI w) (nI v)
          · simp
          · rw [(C_left hc.F _ _ _ q).2]
            simp only [not_true_eq_false, if_false, if_true]
            cases ho : akI σ w (akO σ w) v with
            | none => simp [akC]
            | some z =>
              have := (hG z ho).1
              simp only [akC, if_neg this]
              by_cases q2 : z.2 ≤ lefA (s_F σ) (fitA σ) (nI w) (nI v) <;> simp [q2, this]
  · have : w = 5 := by omega
    subst this
    rw [if_pos (by omega)]
    exact ⟨fun y => absurd (Nat.le_refl _) y, .inr ⟨_, rfl, rfl⟩⟩
theorem lohi : ∀ w, w < 5 → ∃ l h, l ≤ h ∧ h ≤ 18 ∧ v_X12_lowest (nI w) = nI l ∧ v_X12_highest (nI w) = nI h ∧ (∀ v, v < 19 → hokB (nI w) (nI v) = (decide (l ≤ v) && decide (v ≤ h))) := by
  intro w hw
  have : w = 0 ∨ w = 1 ∨ w = 2 ∨ w = 3 ∨ w = 4 := by omega
  rcases this with rfl | rfl | rfl | rfl | rfl
  · exact ⟨1, 18, by omega, by omega, by decide +kernel, by decide +kernel, by decide +kernel⟩
  · exact ⟨0, 1, by omega, by omega, by decide +kernel, by decide +kernel, by decide +kernel⟩
  · exact ⟨0, 9, by omega, by omega, by decide +kernel, by decide +kernel, by decide +kernel⟩
  · exact ⟨0, 1, by omega, by omega, by decide +kernel, by decide +kernel, by decide +kernel⟩
  · exact ⟨0, 1, by omega, by omega, by decide +kernel, by decide +kernel, by decide +kernel⟩
theorem akI_lo {w l h : Nat} {o : Option (Int32 × Int32)} (hh : ∀ v, v < 19 → hokB (nI w) (nI v) = (decide (l ≤ v) && decide (v ≤ h))) (hl : l ≤ 19) : ∀ v, v ≤ l → akI σ w o v = o
  | 0, _ => rfl
  | v + 1, hv => by
    show akS σ w v (akI σ w o v) = o
    rw [akI_lo hh hl v (by omega)]
    unfold akS
    rw [hh v (by omega), decide_eq_false (show ¬ l ≤ v by omega)]; simp
theorem akI_hi {w l h : Nat} {o : Option (Int32 × Int32)} (hh : ∀ v, v < 19 → hokB (nI w) (nI v) = (decide (l ≤ v) && decide (v ≤ h))) : ∀ k, h + 1 + k ≤ 19 → akI σ w o (h + 1 + k) = akI σ w o (h + 1)
  | 0, _ => rfl
  | k + 1, hk => by
    show akS σ w (h + 1 + k) (akI σ w o (h + 1 + k)) = _
    rw [akI_hi hh k (by omega)]
    unfold akS
    rw [hh (h + 1 + k) (by omega), decide_eq_false (show ¬ h + 1 + k ≤ h by omega)]; simp
theorem M_asks (ok : OK σ) (hm : MS σ μ) : whP (fun s : Int32 × Int32 × Int32 × Int32 => bd_X12_asks_26 μ s.1 s.2.1 s.2.2.1 s.2.2.2) (fun s : Int32 × Int32 × Int32 × Int32 => sd_X12_asks_26 μ s.1 s.2.1 s.2.2.1 s.2.2.2) FU (fitA σ, -1, 1000000, 0) ∧ whl (fun s : Int32 × Int32 × Int32 × Int32 => bd_X12_asks_26 μ s.1 s.2.1 s.2.2.1 s.2.2.2) (fun _ : Int32 × Int32 × Int32 × Int32 => (0, 0)) FU (fitA σ, -1, 1000000, 0) = akM (akO σ 5) := by
  refine lpI (f := fun s : Int32 × Int32 × Int32 × Int32 => bd_X12_asks_26 μ s.1 s.2.1 s.2.2.1 s.2.2.2) (sd := fun s : Int32 × Int32 × Int32 × Int32 => sd_X12_asks_26 μ s.1 s.2.1 s.2.2.1 s.2.2.2) (dd := fun _ : Int32 × Int32 × Int32 × Int32 => (0, 0))
    (I := fun w s => w ≤ 5 ∧ s = (fitA σ, (akM (akO σ w)).1, (akM (akO σ w)).2, nI w))
    (R := fun z => z = akM (akO σ 5)) 5 (by omega) ?_ (s0 := (fitA σ, -1, 1000000, 0)) ⟨Nat.zero_le _, rfl⟩
  rintro w _ hw ⟨hw2, rfl⟩
  dsimp only
  unfold sd_X12_asks_26 bd_X12_asks_26
  rw [show (5 : Int32) = nI 5 from rfl]
  simp only [nI_leI (show 5 < 2 ^ 31 by omega) (show w < 2 ^ 31 by omega)]
  rcases Nat.lt_or_ge w 5 with y | y
  · rw [if_neg (show ¬ 5 ≤ w by omega)]
    obtain ⟨l, h, hlh, hh18, el, eh, hh⟩ := lohi w y
    rw [el]
    have k2 := lpI (f := fun s : Int32 × Int32 × Int32 × Int32 × Int32 => bd_X12_asks_39 μ s.1 s.2.1 s.2.2.1 s.2.2.2.1 s.2.2.2.2) (sd := fun s : Int32 × Int32 × Int32 × Int32 × Int32 => sd_X12_asks_39 μ s.1 s.2.1 s.2.2.1 s.2.2.2.1 s.2.2.2.2) (dd := fun _ : Int32 × Int32 × Int32 × Int32 × Int32 => (0, 0, 0, 0))
      (I := fun i s => l + i ≤ h + 1 ∧ s = (fitA σ, (akM (akI σ w (akO σ w) (l + i))).1, (akM (akI σ w (akO σ w) (l + i))).2, nI w, nI (l + i)))
      (R := fun z => z = (fitA σ, (akM (akO σ (w + 1))).1, (akM (akO σ (w + 1))).2, nI w)) (h + 1 - l) (by omega) ?_ (s0 := (fitA σ, (akM (akO σ w)).1, (akM (akO σ w)).2, nI w, nI l)) ⟨by omega, by rw [Nat.add_zero, akI_lo hh (by omega) l (Nat.le_refl _)]⟩
    · obtain ⟨k1, k3⟩ := k2
      rw [k3, nI_1]
      exact ⟨fun _ => k1, .inl ⟨_, rfl, y, by omega, rfl⟩⟩
    · rintro i _ hv ⟨hv2, rfl⟩
      dsimp only
      unfold sd_X12_asks_39 bd_X12_asks_39
      rw [eh]
      simp only [nI_ltI (show h < 2 ^ 31 by omega) (show l + i < 2 ^ 31 by omega)]
      rcases Nat.lt_or_ge h (l + i) with x | x
      · have e9 : l + i = h + 1 := by omega
        rw [if_pos x, e9]
        refine ⟨fun y => absurd (by omega) y, .inr ⟨_, rfl, ?_⟩⟩
        have e8 : akO σ (w + 1) = akI σ w (akO σ w) (h + 1) := by
          show akI σ w (akO σ w) 19 = _
          rw [show 19 = h + 1 + (18 - h) by omega]
          exact akI_hi hh _ (by omega)
        rw [e8]
      · have hok : hokB (nI w) (nI (l + i)) = true := by
          rw [hh _ (by omega), decide_eq_true (show l ≤ l + i by omega), decide_eq_true x]; rfl
        obtain ⟨m1, m2⟩ := M_soN hm.F (fitA σ) (akM (akI σ w (akO σ w) (l + i))).1 (akM (akI σ w (akO σ w) (l + i))).2 (nI w) (nI (l + i)) hok
        rw [if_neg (show ¬ h < l + i by omega), m2]
        dsimp only
        refine ⟨fun _ => m1, .inl ⟨_, rfl, by omega, by omega, ?_⟩⟩
        have hlr := lef_rg ok (nI w) (nI (l + i))
        have el2 : (if soN (s_F σ) (fitA σ) (nI w) (nI (l + i)) < v_J6_bitCount_0f7a4 (fitA σ) - soN (s_F σ) (fitA σ) (nI w) (nI (l + i)) then v_J6_bitCount_0f7a4 (fitA σ) - soN (s_F σ) (fitA σ) (nI w) (nI (l + i)) else soN (s_F σ) (fitA σ) (nI w) (nI (l + i))) = lefA (s_F σ) (fitA σ) (nI w) (nI (l + i)) := rfl
        rw [el2, nI_1]
        show _ = (fitA σ, (akM (akS σ w (l + i) (akI σ w (akO σ w) (l + i)))).1, (akM (akS σ w (l + i) (akI σ w (akO σ w) (l + i)))).2, nI w, nI (l + i + 1))
        unfold akS
        rw [hok]
        simp only [if_true]
        generalize lefA (s_F σ) (fitA σ) (nI w) (nI (l + i)) = L at hlr ⊢
        cases akI σ w (akO σ w) (l + i) with
        | none =>
          have g1 : ¬ ((1000000 : Int32) ≤ L) := by rw [fa_le, show (1000000 : Int32).toInt = 1000000 by decide +kernel]; omega
          have g2 : L < (1000000 : Int32) := by rw [fa_lt, show (1000000 : Int32).toInt = 1000000 by decide +kernel]; omega
          have e1 : akM none = (-1, 1000000) := rfl
          have e2 : akM (some (20 * nI w + nI (l + i), L)) = (20 * nI w + nI (l + i), L) := rfl
          rw [e1, e2]
          dsimp only
          rw [if_neg g1, if_pos g2]
        | some z =>
          have e1 : akM (some z) = z := rfl
          rw [e1]
          dsimp only
          by_cases q2 : z.2 ≤ L
          · have q3 : ¬ L < z.2 := by rw [fa_lt]; rw [fa_le] at q2; omega
            simp only [q2, q3, if_true, if_false]
            rfl
          · have q3 : L < z.2 := by rw [fa_lt]; rw [fa_le] at q2; omega
            simp only [q2, q3, if_true, if_false]
            rfl
  · have : w = 5 := by omega
    subst this
    rw [if_pos (by omega)]
    exact ⟨fun y => absurd (Nat.le_refl _) y, .inr ⟨_, rfl, rfl⟩⟩
theorem akS_s {w v : Nat} {o : Option (Int32 × Int32)} (h : o ≠ none) : akS σ w v o ≠ none := by
  cases o with
  | none => exact absurd rfl h
  | some x => unfold akS; (repeat' split) <;> simp
theorem akI_s {w : Nat} {o : Option (Int32 × Int32)} (h : o ≠ none) : ∀ v, akI σ w o v ≠ none
  | 0 => h
  | v + 1 => akS_s (akI_s h v)
theorem akO_s : akO σ 5 ≠ none := by
  have h2 : akI σ 0 none 2 ≠ none := by
    show akS σ 0 1 (akS σ 0 0 none) ≠ none
    unfold akS
    rw [show hokB (nI 0) (nI 1) = true by decide +kernel, show hokB (nI 0) (nI 0) = false by decide +kernel]
    simp
  have h1 : akO σ 1 ≠ none := by
    show akI σ 0 none 19 ≠ none
    have : ∀ k, akI σ 0 none (2 + k) ≠ none := fun k => by
      induction k with
      | zero => exact h2
      | succ k ih => exact akS_s ih
    exact this 17
  exact akI_s (akI_s (akI_s (akI_s h1 19) 19) 19) 19
theorem call_asks (h : Sim σ R μ) : Call (p_X11_asks μ) (p_X12_asks (e_X11_asks μ)) (v_X11_asks μ) (v_X12_asks (e_X11_asks μ)) (e_X12_asks (e_X11_asks μ)) := by
  have fC := fr_X11_asks μ
  have m := h.m1 fC (by decide)
  obtain ⟨z, hz⟩ : ∃ z, akO σ 5 = some z := by
    cases q : akO σ 5 with
    | none => exact absurd q akO_s
    | some z => exact ⟨z, rfl⟩
  refine Two (v := if fitA σ = 0 then -2 else z.1) (R' := if fitA σ = 0 then R else [z.2.toInt64]) h fC (fs_X12_asks _) ?_ ?_ (by decide) (by decide)
  · unfold p_X11_asks v_X11_asks e_X11_asks
    obtain ⟨p1, v1⟩ := C_fitting h.1 h.2.1
    simp only [forall_eq]
    rw [v1]
    obtain ⟨k1, k2⟩ := C_asks h.1 h.2.1
    have e : akC (akO σ 5) = z := by rw [hz]; rfl
    rw [e] at k2
    rw [k2]
    obtain ⟨p2, c2⟩ := CSR_add (CSR_begin (σ := σ) (R := R) ⟨h.2.1, h.2.2.2.1⟩) (by simp) z.2.toInt64
    refine ⟨⟨p1, fun _ => ⟨k1, p2⟩⟩, rfl, ?_⟩
    by_cases q : fitA σ = 0
    · rw [if_pos q, if_pos q]; exact h.2.2.2.1
    · rw [if_neg q, if_neg q]; exact c2.2
  · generalize e_X11_asks μ = μa at m ⊢
    unfold p_X12_asks v_X12_asks e_X12_asks
    simp only [forall_eq]
    have hm0 : MSR σ R (upI μa 49 0 0) := ⟨m.1.th 0, m.2.th 0⟩
    generalize upI μa 49 0 0 = μ0 at hm0 ⊢
    obtain ⟨p1, v1⟩ := M_fitting h.1 hm0.1
    rw [v1]
    obtain ⟨k1, k2⟩ := M_asks h.1 hm0.1
    have e : akM (akO σ 5) = z := by rw [hz]; rfl
    rw [e] at k2
    rw [k2]
    obtain ⟨p2, c2⟩ := MSR_add (MSR_begin hm0) (by simp) z.2.toInt64
    refine ⟨⟨p1, fun _ => ⟨k1, p2⟩⟩, rfl, ?_⟩
    by_cases q : fitA σ = 0
    · rw [if_pos q, if_pos q]; exact hm0.2
    · rw [if_neg q, if_neg q]; exact c2.2
end HE

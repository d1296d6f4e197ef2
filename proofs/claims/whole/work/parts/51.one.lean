/-! one, row: the model's side -/
def oneOK (σ : ST) (x w : Int32) : Bool := hasF (s_F σ) x && inB w 0 5
def oneV (σ : ST) (x w : Int32) : Int32 :=
  if w = 0 then f_w (s_F σ) x.toNatClampNeg else if w = 1 then f_h (s_F σ) x.toNatClampNeg else if w = 2 then f_p (s_F σ) x.toNatClampNeg else if w = 3 then f_k (s_F σ) x.toNatClampNeg else if w = 4 then (if bt (f_o (s_F σ)) x.toNatClampNeg then 1 else 0) else wayA (s_r σ) (s_F σ) (momA (s_F σ)) x.toNatClampNeg
theorem t5 : (5 : Int64).toInt = 5 := by decide +kernel
section ON
variable {σ : ST} {R : List Int64} {μ : Mm}
theorem M_one (ok : OK σ) (hm : MSR σ R μ) (x w : Int32) : p_X12_one x w μ ∧ (oneOK σ x w = true → v_X12_one x w μ = oneV σ x w) ∧ MSR σ R (e_X12_one x w μ) ∧ (e_X12_one x w μ).1 49 0 = if oneOK σ x w then 0 else 1 := by
  have hn := ok.g.1
  unfold p_X12_one v_X12_one e_X12_one oneOK
  simp only [forall_eq]
  have hm0 : MSR σ R (upI μ 49 0 0) := ⟨hm.1.th 0, hm.2.th 0⟩
  have h00 : (upI μ 49 0 0).1 49 0 = 0 := by rw [rI, if_pos ⟨rfl, rfl⟩]
  generalize upI μ 49 0 0 = μ0 at hm0 h00 ⊢
  have hrf : MSR σ R (e_X12_refuse μ0) ∧ (e_X12_refuse μ0).1 49 0 = 1 := by
    unfold e_X12_refuse
    exact ⟨⟨hm0.1.th 1, hm0.2.th 1⟩, by dsimp only; rw [rI, if_pos ⟨rfl, rfl⟩]⟩
  rw [M_isOne hm0.1.F, in_B s0 t5]
  cases hk : hasF (s_F σ) x
  · simp only [Bool.false_eq_true, if_false, if_true, Bool.false_and]
    exact ⟨fun y => absurd trivial y, fun y => y.elim, hrf⟩
  · cases hw : inB w 0 5
    · simp only [Bool.false_eq_true, if_false, if_true, Bool.and_false, show ¬ ((1 : Int32) = 0) from by decide, not_true_eq_false]
      exact ⟨fun _ y => y.elim, fun y => y.elim, hrf⟩
    · simp only [if_true, show ¬ ((1 : Int32) = 0) from by decide, if_false, not_false_eq_true, true_imp_iff, Bool.and_true]
      obtain ⟨kc, ke⟩ := hasF_cl hn hk
      unfold oneV
      generalize x.toNatClampNeg = k at kc ke ⊢
      subst ke
      rw [cl7 (by omega), cl14 (by omega), cl21, hm0.1.F.w (by omega), hm0.1.F.h (by omega), hm0.1.F.p (by omega), hm0.1.F.k (by omega), hm0.1.F.o, has_b _ (by omega), flag_0]
      obtain ⟨p1, v1⟩ := M_moment hm0.1.F
      rw [v1]
      obtain ⟨p2, v2⟩ := M_walksTo hm0.1.F ok.rl ok.rw hm0.1.r ok.g (.inl rfl) kc (momA (s_F σ))
      rw [v2]
      have f := fs_X12_walksTo 52 (nI k) (momA (s_F σ)) μ0
      have hm1 : MSR σ R (e_X12_walksTo 52 (nI k) (momA (s_F σ)) μ0) := ⟨hm0.1.fs f (by decide), hm0.2.fs f (by decide)⟩
      have h01 : (e_X12_walksTo 52 (nI k) (momA (s_F σ)) μ0).1 49 0 = 0 := by rw [f.1 49 0 (by decide) (.inr (by decide))]; exact h00
      refine ⟨⟨fun _ => vp_in_nI (by omega) (by omega), fun _ => ⟨fun _ => vp_in_nI (by omega) (by omega), fun _ => ⟨fun _ => in7 (by omega), fun _ => ⟨fun _ => in14 (by omega), fun _ _ => ⟨p1, p2⟩⟩⟩⟩⟩, rfl, ?_⟩
      (repeat' split) <;> first | exact ⟨hm0, h00⟩ | exact ⟨hm1, h01⟩
def rowOK (R : List Int64) (x : Int32) : Bool := inB x 0 ((R.length : Int) - 1)
theorem M_row (hm : MSR σ R μ) (x : Int32) : p_X12_row x μ ∧ (rowOK R x = true → v_X12_row x μ = R.getD x.toNatClampNeg 0) ∧ MSR σ R (e_X12_row x μ) ∧ (e_X12_row x μ).1 49 0 = if rowOK R x then 0 else 1 := by
  unfold p_X12_row v_X12_row e_X12_row rowOK
  simp only [forall_eq]
  have hm0 : MSR σ R (upI μ 49 0 0) := ⟨hm.1.th 0, hm.2.th 0⟩
  have h00 : (upI μ 49 0 0).1 49 0 = 0 := by rw [rI, if_pos ⟨rfl, rfl⟩]
  generalize upI μ 49 0 0 = μ0 at hm0 h00 ⊢
  obtain ⟨h1, h2, h3⟩ := hm0.2
  have hl : ((μ0.1 49 1) - 1).toInt64.toInt = (R.length : Int) - 1 := by
    rw [h2, Int32.toInt_toInt64, toInt_subS (by rw [nI_toInt (by omega), t1]; omega), nI_toInt (by omega), t1]
  rw [in_B s0 hl]
  cases q : inB x 0 ((R.length : Int) - 1)
  · simp only [Bool.false_eq_true, if_false, if_true]
    exact ⟨fun y => absurd trivial y, fun y => y.elim, ⟨hm0.1.th 1, hm0.2.th 1⟩, by rw [rI, if_pos ⟨rfl, rfl⟩]⟩
  · simp only [if_true, show ¬ ((1 : Int32) = 0) from by decide, if_false, not_false_eq_true, true_imp_iff]
    have q2 := of_decide_eq_true q
    have hc : x.toNatClampNeg < R.length := by rw [cl_t]; omega
    have hx : x = nI x.toNatClampNeg := by rw [fa_eq, nI_toInt (by omega), cl_t]; omega
    refine ⟨?_, h3 _ hc, hm0, h00⟩
    rw [hx]; exact vp_in_nI (by omega) (by omega)
end ON

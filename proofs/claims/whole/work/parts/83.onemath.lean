/-! one and row: both sides -/
section OM2
variable {σ : ST} {R : List Int64} {μ : Mm}
theorem oneT_ok (h : Sim σ R μ) (x w : Int32) : oneT x w μ ↔ oneOK σ x w = false := by
  unfold oneT oneOK
  rw [C_has h.2.1.F]
  cases hk : hasF (s_F σ) x
  · simp
  · cases hw : inB w 0 5
    · have : ¬ (0 ≤ w.toInt ∧ w.toInt ≤ 5) := of_decide_eq_false hw
      simp only [Bool.true_and]
      exact ⟨fun _ => trivial, fun _ => .inr (by omega)⟩
    · have : 0 ≤ w.toInt ∧ w.toInt ≤ 5 := of_decide_eq_true hw
      simp only [Bool.and_self, if_true]
      refine ⟨fun y => ?_, fun y => by cases y⟩
      rcases y with y | y
      · exact absurd y (by decide)
      · omega
theorem C_one (h : Sim σ R μ) (x w : Int32) (ho : oneOK σ x w = true) : p_X11_one x w μ ∧ v_X11_one x w μ = oneV σ x w ∧ Fr [6, 7, 17] μ (e_X11_one x w μ) := by
  have ok := h.1
  have hc := h.2.1
  have hn := ok.g.1
  unfold oneOK at ho
  rw [Bool.and_eq_true] at ho
  obtain ⟨kc, ke⟩ := hasF_cl hn ho.1
  obtain ⟨m1, m2⟩ := C_moment hc.F
  unfold p_X11_one v_X11_one e_X11_one oneV
  generalize hk : x.toNatClampNeg = k at kc ke ⊢
  subst ke
  obtain ⟨p2, v2⟩ := C_wayOf hc.F hc.r ok.g (.inl rfl) (.inl rfl) kc (momA (s_F σ))
  rw [m2]
  refine ⟨⟨vp_in_nI (by omega) (by omega), m1, p2⟩, ?_, ?_⟩
  · have i2 : μ.1 2 k = f_w (s_F σ) k := hc.F.w (by omega)
    have i3 : μ.1 3 k = f_h (s_F σ) k := hc.F.h (by omega)
    have i4 : μ.1 4 k = f_p (s_F σ) k := hc.F.p (by omega)
    have i5 : μ.1 5 k = f_k (s_F σ) k := hc.F.k (by omega)
    have io : (if v_X1_isOff 1 (nI k) μ = 0 then (0 : Int32) else 1) = if bt (f_o (s_F σ)) k then 1 else 0 := by
      unfold v_X1_isOff
      have := bt_ask0 (μ.1 1 5) (i := k) (by omega)
      have ho5 : μ.1 1 5 = f_o (s_F σ) := hc.F.o
      rw [ho5] at this ⊢
      simp only [this]
      cases bt (f_o (s_F σ)) k <;> rfl
    rw [v2, i2, i3, i4, i5, io]
  · have f := fr_X1_wayOf 1 (nI k) 15 (momA (s_F σ)) μ
    have f' : Fr [6, 7, 17] μ (e_X1_wayOf 1 (nI k) 15 (momA (s_F σ)) μ) := Fr.rfl.call f (by decide)
    (repeat' split) <;> first | exact Fr.rfl | exact f'
theorem Sim_one (h : Sim σ R μ) (x w : Int32) : (oneT x w μ → p_X12_one x w μ ∧ (e_X12_one x w μ).1 49 0 = 1 ∧ Sim σ R (e_X12_one x w μ)) ∧ (¬ oneT x w μ → p_X11_one x w μ ∧ ∀ μ1, μ1 = upJ (e_X11_one x w μ) 78 0 (v_X11_one x w μ).toInt64 → p_X12_one x w μ1 ∧ (e_X12_one x w μ1).1 49 0 = 0 ∧ (e_X12_one x w μ1).2 78 0 = (v_X12_one x w μ1).toInt64 ∧ Sim σ R (e_X12_one x w μ1)) := by
  have hT := oneT_ok h x w
  refine ⟨fun y => ?_, fun y => ?_⟩
  · have ho := hT.mp y
    obtain ⟨a1, a2, a3, a4⟩ := M_one h.1 ⟨h.2.2.1, h.2.2.2.2⟩ x w
    have f := fs_X12_one x w μ
    rw [ho] at a4
    exact ⟨a1, a4, h.1, h.2.1.fc (f.fc (by decide)), a3.1, h.2.2.2.1.fc (f.fc (by decide)), a3.2⟩
  · have ho : oneOK σ x w = true := by
      cases q : oneOK σ x w
      · exact absurd (hT.mpr q) y
      · rfl
    obtain ⟨b1, b2, b3⟩ := C_one h x w ho
    refine ⟨b1, fun μ1 e1 => ?_⟩
    have m1 := h.m1 b3 (by decide)
    have c1 : CS σ (e_X11_one x w μ) := h.2.1.fr b3 (by decide)
    have t1 : ToC R (e_X11_one x w μ) := h.2.2.2.1.fr b3 (by decide)
    have f2 : Fs [78] (e_X11_one x w μ) μ1 := by rw [e1]; exact Fs.rfl.upJ (by simp)
    have m2 : MSR σ R μ1 := ⟨m1.1.fs f2 (by decide), m1.2.fs f2 (by decide)⟩
    have c2 : CS σ μ1 := c1.fc (f2.fc (by decide))
    have t2 : ToC R μ1 := t1.fc (f2.fc (by decide))
    obtain ⟨a1, a2, a3, a4⟩ := M_one h.1 m2 x w
    have f := fs_X12_one x w μ1
    rw [ho] at a4
    refine ⟨a1, a4, ?_, h.1, c2.fc (f.fc (by decide)), a3.1, t2.fc (f.fc (by decide)), a3.2⟩
    rw [f.2 78 (by decide), a2 ho, ← b2, e1]
    unfold upJ
    simp [vp_updL]
theorem rowT_ok (h : Sim σ R μ) (x : Int32) : rowT x μ ↔ rowOK R x = false := by
  unfold rowT rowOK
  have h1 := h.2.2.2.1.2.1
  have h2 := h.2.2.2.1.1
  rw [h1]
  cases hw : inB x 0 ((R.length : Int) - 1)
  · have : ¬ (0 ≤ x.toInt ∧ x.toInt ≤ (R.length : Int) - 1) := of_decide_eq_false hw
    refine ⟨fun _ => rfl, fun _ => ?_⟩
    rw [fa_lt, fa_lt, t0, nI_toInt (by omega)]
    omega
  · have : 0 ≤ x.toInt ∧ x.toInt ≤ (R.length : Int) - 1 := of_decide_eq_true hw
    refine ⟨fun y => ?_, fun y => by cases y⟩
    rw [fa_lt, fa_lt, t0, nI_toInt (by omega)] at y
    omega
theorem Sim_row (h : Sim σ R μ) (x : Int32) : (rowT x μ → p_X12_row x μ ∧ (e_X12_row x μ).1 49 0 = 1 ∧ Sim σ R (e_X12_row x μ)) ∧ (¬ rowT x μ → vp_in x 16 ∧ ∀ μ1, μ1 = upJ μ 78 0 (μ.2 28 x.toNatClampNeg) → p_X12_row x μ1 ∧ (e_X12_row x μ1).1 49 0 = 0 ∧ (e_X12_row x μ1).2 78 0 = v_X12_row x μ1 ∧ Sim σ R (e_X12_row x μ1)) := by
  have hT := rowT_ok h x
  refine ⟨fun y => ?_, fun y => ?_⟩
  · have ho := hT.mp y
    obtain ⟨a1, a2, a3, a4⟩ := M_row (σ := σ) ⟨h.2.2.1, h.2.2.2.2⟩ x
    have f := fs_X12_row x μ
    rw [ho] at a4
    exact ⟨a1, a4, h.1, h.2.1.fc (f.fc (by decide)), a3.1, h.2.2.2.1.fc (f.fc (by decide)), a3.2⟩
  · have ho : rowOK R x = true := by
      cases q : rowOK R x
      · exact absurd (hT.mpr q) y
      · rfl
    have hR := h.2.2.2.1.1
    have hb : 0 ≤ x.toInt ∧ x.toInt ≤ (R.length : Int) - 1 := of_decide_eq_true ho
    have hcl : x.toNatClampNeg < R.length := by rw [cl_t]; omega
    have hx : x = nI x.toNatClampNeg := by rw [fa_eq, nI_toInt (by omega), cl_t]; omega
    refine ⟨by rw [hx]; exact vp_in_nI (by omega) (by omega), fun μ1 e1 => ?_⟩
    have f2 : Fs [78] μ μ1 := by rw [e1]; exact Fs.rfl.upJ (by simp)
    have m2 : MSR σ R μ1 := ⟨h.2.2.1.fs f2 (by decide), h.2.2.2.2.fs f2 (by decide)⟩
    have c2 : CS σ μ1 := h.2.1.fc (f2.fc (by decide))
    have t2 : ToC R μ1 := h.2.2.2.1.fc (f2.fc (by decide))
    obtain ⟨a1, a2, a3, a4⟩ := M_row (σ := σ) m2 x
    have f := fs_X12_row x μ1
    rw [ho] at a4
    refine ⟨a1, a4, ?_, h.1, c2.fc (f.fc (by decide)), a3.1, t2.fc (f.fc (by decide)), a3.2⟩
    rw [f.2 78 (by decide), a2 ho, e1]
    unfold upJ
    simp only [if_true]
    unfold vp_updL
    rw [if_pos rfl]
    exact h.2.2.2.1.2.2 _ hcl
end OM2

/-! noon, undo, minutes, keep, again, seen, forget, heard, denies, count -/
theorem M_done2 {σ : ST} {F : FL} {La : List Nat} {μ μ2 μ4 μ5 : Mm} {V : Int32} (h : MS σ μ) (hn : f_n F = f_n (s_F σ)) (f0 : Fs [61] μ μ2) (hf : FlM 52 F μ4) (fa : Fs La μ2 μ4) (hLa : ∀ x, x ∈ La → x ∈ actM) (fc : Fs [61, 1023] μ4 μ5) (hu : UnM (undV σ V) μ5) : MS (actS σ F V) μ5 := by
  have n : ∀ {c}, c ∉ actM → c ∉ La := fun hc q => hc (hLa _ q)
  have fall : Fs (61 :: 1023 :: La) μ μ5 := ((Fs.rfl.call f0 (by simp)).call fa (fun k hk => by simp [hk])).call fc (by simp)
  have m : ∀ {c}, c ∉ actM → c ≠ 61 → c ≠ 1023 → c ∉ 61 :: 1023 :: La := fun h1 h2 h3 => by simp [h2, h3, n h1]
  refine ⟨hf.fs fc (by simp), h.r.fs fall ⟨m (by decide) (by decide) (by decide), m (by decide) (by decide) (by decide), m (by decide) (by decide) (by decide)⟩, h.T.fs fall ⟨m (by decide) (by decide) (by decide), m (by decide) (by decide) (by decide), m (by decide) (by decide) (by decide)⟩, hu, ?_, h.S.fs fall ⟨m (by decide) (by decide) (by decide), m (by decide) (by decide) (by decide), m (by decide) (by decide) (by decide), m (by decide) (by decide) (by decide), m (by decide) (by decide) (by decide)⟩, h.H.fs fall ⟨m (by decide) (by decide) (by decide), m (by decide) (by decide) (by decide), m (by decide) (by decide) (by decide), m (by decide) (by decide) (by decide)⟩⟩
  show KeM (s_K σ) (f_n F) _
  rw [hn]
  exact h.K.fs fall ⟨m (by decide) (by decide) (by decide), m (by decide) (by decide) (by decide), m (by decide) (by decide) (by decide), m (by decide) (by decide) (by decide), m (by decide) (by decide) (by decide)⟩
section CA
variable {σ : ST} {R : List Int64} {μ : Mm}
theorem call_noon (h : Sim σ R μ) (x : Int32) : Call (p_X11_noon x μ) (p_X12_noon x (e_X11_noon x μ)) (v_X11_noon x μ) (v_X12_noon x (e_X11_noon x μ)) (e_X12_noon x (e_X11_noon x μ)) := by
  obtain ⟨ok, hc, hm, tc, tm⟩ := h
  obtain ⟨n1, n2⟩ := C_note hc.F hc.U
  have f0 := fr_X3_note 1 μ
  have hF2 := hc.F.fr f0 (by simp)
  obtain ⟨a2, a3⟩ := C_noon hF2 x
  have fa := fr_X1_setNoon 1 x (e_X3_note 1 μ)
  have fC := fr_X11_noon x μ
  have hC : CS (actS σ (noonF (s_F σ) x) (noonV (s_F σ) x)) (e_X11_noon x μ) := by
    have := (C_done (V := noonV (s_F σ) x) hc f0 n2 a3 fa (by decide)).1
    unfold e_X11_noon
    dsimp only
    rw [a2]
    exact this
  have hm1 : MS σ (e_X11_noon x μ) := hm.frC fC (by decide)
  have tm1 : ToM R (e_X11_noon x μ) := tm.frC fC (by decide)
  have tc1 : ToC R (e_X11_noon x μ) := tc.fr fC (by decide)
  have fM := fs_X12_noon x (e_X11_noon x μ)
  refine ⟨?_, ?_⟩
  · unfold p_X11_noon
    exact n1
  have hv : v_X11_noon x μ = noonV (s_F σ) x := by
    unfold v_X11_noon v_X11_committed
    exact a2
  rw [hv]
  generalize e_X11_noon x μ = μ1 at *
  have hm0 := hm1.th 0
  obtain ⟨b1, b2⟩ := M_putsBy hm0.F hm0.U
  have g0 := fs_X12_putsBy (upI μ1 49 0 0)
  have hF3 := hm0.F.fs g0 (by simp)
  have g2 : p_X12_noon x μ1 ∧ v_X12_noon x μ1 = noonV (s_F σ) x ∧ MS (actS σ (noonF (s_F σ) x) (noonV (s_F σ) x)) (e_X12_noon x μ1) := by
    unfold p_X12_noon v_X12_noon e_X12_noon
    simp only [forall_eq]
    generalize e_X12_putsBy (upI μ1 49 0 0) = μ3 at b1 b2 g0 hF3 ⊢
    have c2 : (if v_X12_in (Int32.toInt64 x) 1 60 = 0 then -1 else v_X12_becomes 23 x 0 μ3) = noonV (s_F σ) x := by
      rw [in_B s1 s60]
      unfold noonV v_X12_becomes
      rw [cl23, hF3.z, Int32.add_zero]
      cases inB x 1 60 <;> rfl
    rw [c2]
    have c3 : FlM 52 (noonF (s_F σ) x) (if v_X12_in (Int32.toInt64 x) 1 60 = 0 then μ3 else e_X12_becomes 23 x 0 μ3) := by
      rw [in_B s1 s60]
      unfold noonF e_X12_becomes
      rw [cl23]
      cases inB x 1 60
      · exact hF3
      · exact hF3.setZ (.inl rfl)
    have ga : Fs [52] μ3 (if v_X12_in (Int32.toInt64 x) 1 60 = 0 then μ3 else e_X12_becomes 23 x 0 μ3) := Fs.ite Fs.rfl (fs_X12_becomes 23 x 0 μ3)
    generalize (if v_X12_in (Int32.toInt64 x) 1 60 = 0 then μ3 else e_X12_becomes 23 x 0 μ3) = μ7 at c3 ga ⊢
    obtain ⟨d1, d2, d3⟩ := M_counted (b2.fs ga (by simp)) (noonV (s_F σ) x)
    have hM := M_done hm0 (noon_n _ _) g0 c3 ga (by decide) d3
    exact ⟨⟨b1, fun _ => ⟨vp_in_nI (n := 23) (by omega) (by omega), vp_in_nI (n := 23) (by omega) (by omega)⟩, d1⟩, d2, hM⟩
  exact ⟨g2.1, g2.2.1.symm, Both ⟨ok, hc, hm, tc, tm⟩ (OK_act ok (RgF_noon ok.g x) (noon_n _ _) (noonV (s_F σ) x)) hC tc1 g2.2.2 (tm1.fs fM (by decide)) fM (by decide)⟩
theorem call_undo (h : Sim σ R μ) : Call (p_X11_undo μ) (p_X12_undo (e_X11_undo μ)) (v_X11_undo μ) (v_X12_undo (e_X11_undo μ)) (e_X12_undo (e_X11_undo μ)) := by
  obtain ⟨ok, hc, hm, tc, tm⟩ := h
  obtain ⟨a1, a2, a3, a4⟩ := C_undo hc.F hc.U
  have fC := fr_X11_undo μ
  have hm1 := hm.frC fC (by decide)
  have tm1 := tm.frC fC (by decide)
  have tc1 := tc.fr fC (by decide)
  have fM := fs_X12_undo (e_X11_undo μ)
  obtain ⟨b1, b2, b3, b4⟩ := M_undo hm1.F hm1.U
  refine ⟨a1, b1, a2.trans b2.symm, ?_⟩
  have hC : CS ((if (s_U σ).length = 0 then s_F σ else putF (s_F σ) ((s_U σ).getD 0 rw0)), s_r σ, s_T σ, (s_U σ).drop 1, s_K σ, s_S σ, s_H σ) (e_X11_undo μ) :=
    ⟨a3, hc.r.fr fC (by decide), hc.T.fr fC (by decide), a4, hc.K.fr fC (by decide), hc.S.fr fC (by decide), hc.H.fr fC (by decide)⟩
  have hn : f_n (if (s_U σ).length = 0 then s_F σ else putF (s_F σ) ((s_U σ).getD 0 rw0)) = f_n (s_F σ) := by
    by_cases q : (s_U σ).length = 0
    · rw [if_pos q]
    · rw [if_neg q]; rfl
  have hM : MS ((if (s_U σ).length = 0 then s_F σ else putF (s_F σ) ((s_U σ).getD 0 rw0)), s_r σ, s_T σ, (s_U σ).drop 1, s_K σ, s_S σ, s_H σ) (e_X12_undo (e_X11_undo μ)) :=
    ⟨b3, hm1.r.fs fM (by decide), hm1.T.fs fM (by decide), b4, by show KeM (s_K σ) (f_n (if (s_U σ).length = 0 then s_F σ else putF (s_F σ) ((s_U σ).getD 0 rw0))) _; rw [hn]; exact hm1.K.fs fM (by decide), hm1.S.fs fM (by decide), hm1.H.fs fM (by decide)⟩
  refine Both ⟨ok, hc, hm, tc, tm⟩ ?_ hC tc1 hM (tm1.fs fM (by decide)) fM (by decide)
  obtain ⟨h1, h2, h3, h4, h5, h6, h7⟩ := ok
  refine ⟨?_, h2, h3, fun S hS => ?_, fun i S hi hS => ?_, fun x hx => ?_, h7⟩
  · show RgF (if (s_U σ).length = 0 then s_F σ else putF (s_F σ) ((s_U σ).getD 0 rw0))
    by_cases q : (s_U σ).length = 0
    · rw [if_pos q]; exact h1
    · rw [if_neg q]
      refine RgF_put h1 (h4 _ ?_)
      rw [List.getD_eq_getElem?_getD, List.getElem?_eq_getElem (by omega)]
      exact List.getElem_mem _
  · show RgR (f_n (if (s_U σ).length = 0 then s_F σ else putF (s_F σ) ((s_U σ).getD 0 rw0))) S
    rw [hn]; exact h4 S (List.mem_of_mem_drop hS)
  · show RgR (f_n (if (s_U σ).length = 0 then s_F σ else putF (s_F σ) ((s_U σ).getD 0 rw0))) S
    rw [hn]; exact h5 i S hi hS
  · show hasF (if (s_U σ).length = 0 then s_F σ else putF (s_F σ) ((s_U σ).getD 0 rw0)) x.1 = true ∧ _
    rw [hasF_n hn]; exact h6 x hx
theorem call_minutes (h : Sim σ R μ) (x : Int32) : Call (p_X11_minutes x μ) (p_X12_minutes x (e_X11_minutes x μ)) (v_X11_minutes x μ) (v_X12_minutes x (e_X11_minutes x μ)) (e_X12_minutes x (e_X11_minutes x μ)) := by
  obtain ⟨ok, hc, hm, tc, tm⟩ := h
  have fC := fr_X11_minutes x μ
  have hm1 := hm.frC fC (by decide)
  have tm1 := tm.frC fC (by decide)
  have fM := fs_X12_minutes x (e_X11_minutes x μ)
  cases hx : inB x 0 60
  · have e1 : e_X11_minutes x μ = μ := by unfold e_X11_minutes; rw [ite_in t0 t60, hx]; rfl
    have e2 : v_X11_minutes x μ = -1 := by unfold v_X11_minutes; rw [ite_in t0 t60, hx]; rfl
    have e3 : p_X11_minutes x μ := by
      unfold p_X11_minutes
      intro g1 g2
      exfalso
      simp only [inB, decide_eq_false_iff_not] at hx
      rw [fa_lt, t0] at g1
      rw [fa_le, t60] at g2
      omega
    have e4 : p_X12_minutes x (e_X11_minutes x μ) := by
      unfold p_X12_minutes
      rintro _ rfl g
      rw [in_B s0 s60, hx] at g
      exact absurd rfl g
    have e5 : v_X12_minutes x (e_X11_minutes x μ) = -1 := by unfold v_X12_minutes; dsimp only; rw [in_B s0 s60, hx]; rfl
    have e6 : e_X12_minutes x (e_X11_minutes x μ) = upI (e_X11_minutes x μ) 49 0 0 := by unfold e_X12_minutes; dsimp only; rw [in_B s0 s60, hx]; rfl
    refine ⟨e3, e4, e2.trans e5.symm, ?_⟩
    rw [e6, e1]
    exact Both ⟨ok, hc, hm, tc, tm⟩ ok hc tc (hm.th 0) (tm.th 0) (Fs.upF (S := [1000]) Fs.rfl (by simp)) (by decide)
  · obtain ⟨n1, n2⟩ := C_note hc.F hc.U
    have f0 := fr_X3_note 1 μ
    obtain ⟨a1, a2, a3⟩ := C_go (hc.F.fr f0 (by simp)) (hc.r.fr f0 (by simp)) ok.g (.inl rfl) (.inl rfl) x
    have fa := fr_X1_go 1 x 15 (e_X3_note 1 μ)
    have hC := C_done (V := 0) hc f0 n2 a3 fa (by decide)
    have e0 : e_X11_committed 0 (e_X1_go 1 x 15 (e_X3_note 1 μ)) = e_X3_commit (e_X1_go 1 x 15 (e_X3_note 1 μ)) := rfl
    rw [e0] at hC
    have g1 : p_X11_minutes x μ ∧ v_X11_minutes x μ = 2000 + momA (goA (s_r σ) x.toNatClampNeg (s_F σ)) ∧ CS (actS σ (goA (s_r σ) x.toNatClampNeg (s_F σ)) 0) (e_X11_minutes x μ) ∧ ToC [(wkA (s_r σ) x.toNatClampNeg (s_F σ)).toInt64, (v_J6_bitCount_0f7a4 (staA (goA (s_r σ) x.toNatClampNeg (s_F σ)) 9)).toInt64, (v_J6_bitCount_0f7a4 (staA (goA (s_r σ) x.toNatClampNeg (s_F σ)) (-9))).toInt64] (e_X11_minutes x μ) := by
      unfold p_X11_minutes v_X11_minutes e_X11_minutes
      rw [ite_in t0 t60, ite_in t0 t60, hx]
      simp only [forall_eq, if_true]
      rw [a2]
      generalize e_X1_go 1 x 15 (e_X3_note 1 μ) = μ6 at *
      have hC7 := hC.1
      generalize e_X3_commit μ6 = μ7 at *
      have t8 := ToC_0 μ7
      have hC8 := hC7.fr (fr_X10_begin μ7) (by decide)
      generalize e_X10_begin μ7 = μ8 at *
      obtain ⟨p9, t9⟩ := C_add t8 (by simp) (wkA (s_r σ) x.toNatClampNeg (s_F σ)).toInt64
      have hC9 := hC8.fr (fr_X10_add (wkA (s_r σ) x.toNatClampNeg (s_F σ)).toInt64 μ8) (by decide)
      generalize e_X10_add (wkA (s_r σ) x.toNatClampNeg (s_F σ)).toInt64 μ8 = μ9 at *
      obtain ⟨q9, w9⟩ := C_standingOn hC9.F 9
      rw [w9]
      have w9' : staA (s_F (actS σ (goA (s_r σ) x.toNatClampNeg (s_F σ)) 0)) 9 = staA (goA (s_r σ) x.toNatClampNeg (s_F σ)) 9 := rfl
      rw [w9']
      obtain ⟨p10, t10⟩ := C_add t9 (by simp) (v_J6_bitCount_0f7a4 (staA (goA (s_r σ) x.toNatClampNeg (s_F σ)) 9)).toInt64
      have hC10 := hC9.fr (fr_X10_add (v_J6_bitCount_0f7a4 (staA (goA (s_r σ) x.toNatClampNeg (s_F σ)) 9)).toInt64 μ9) (by decide)
      generalize e_X10_add (v_J6_bitCount_0f7a4 (staA (goA (s_r σ) x.toNatClampNeg (s_F σ)) 9)).toInt64 μ9 = μ10 at *
      obtain ⟨q10, w10⟩ := C_standingOn hC10.F (-9)
      rw [w10]
      have w10' : staA (s_F (actS σ (goA (s_r σ) x.toNatClampNeg (s_F σ)) 0)) (-9) = staA (goA (s_r σ) x.toNatClampNeg (s_F σ)) (-9) := rfl
      rw [w10']
      obtain ⟨p11, t11⟩ := C_add t10 (by simp) (v_J6_bitCount_0f7a4 (staA (goA (s_r σ) x.toNatClampNeg (s_F σ)) (-9))).toInt64
      have hC11 := hC10.fr (fr_X10_add (v_J6_bitCount_0f7a4 (staA (goA (s_r σ) x.toNatClampNeg (s_F σ)) (-9))).toInt64 μ10) (by decide)
      generalize e_X10_add (v_J6_bitCount_0f7a4 (staA (goA (s_r σ) x.toNatClampNeg (s_F σ)) (-9))).toInt64 μ10 = μ11 at *
      obtain ⟨q12, w12⟩ := C_moment hC11.F
      rw [w12]
      exact ⟨fun _ _ => ⟨n1, a1, p9, q9, p10, q10, p11, q12⟩, rfl, hC11, t11⟩
    obtain ⟨c1, c2, c3, c4⟩ := g1
    generalize e_X11_minutes x μ = μ1 at *
    have hm0 := hm1.th 0
    obtain ⟨b1, b2⟩ := M_putsBy hm0.F hm0.U
    have g0 := fs_X12_putsBy (upI μ1 49 0 0)
    obtain ⟨m1, m2, m3⟩ := M_goesOn (hm0.F.fs g0 (by simp)) ok.rl ok.rw (hm0.r.fs g0 (by simp)) ok.g (.inl rfl) x
    have ga := fs_X12_goesOn 52 x (e_X12_putsBy (upI μ1 49 0 0))
    have hu6 := b2.fs ga (by simp)
    have g2 : p_X12_minutes x μ1 ∧ v_X12_minutes x μ1 = 2000 + momA (goA (s_r σ) x.toNatClampNeg (s_F σ)) ∧ MS (actS σ (goA (s_r σ) x.toNatClampNeg (s_F σ)) 0) (e_X12_minutes x μ1) ∧ ToM [(wkA (s_r σ) x.toNatClampNeg (s_F σ)).toInt64, (v_J6_bitCount_0f7a4 (staA (goA (s_r σ) x.toNatClampNeg (s_F σ)) 9)).toInt64, (v_J6_bitCount_0f7a4 (staA (goA (s_r σ) x.toNatClampNeg (s_F σ)) (-9))).toInt64] (e_X12_minutes x μ1) := by
      unfold p_X12_minutes v_X12_minutes e_X12_minutes
      rw [in_B s0 s60, hx]
      simp only [forall_eq, if_true, show ¬ ((1 : Int32) = 0) from by decide, if_false]
      rw [m2]
      generalize e_X12_putsBy (upI μ1 49 0 0) = μ4 at *
      generalize e_X12_goesOn 52 x μ4 = μ6 at *
      have t7 := ToM_0 μ6
      have f7 : Fs [1001] μ6 (upI μ6 49 1 0) := Fs.upF Fs.rfl (by simp)
      generalize upI μ6 49 1 0 = μ7 at *
      have f7' : Fs [50, 52, 59, 60, 62, 1001] μ4 μ7 := (Fs.rfl.call ga (by simp)).call f7 (by simp)
      have hF7 := m3.fs f7 (by simp)
      have hu7 := hu6.fs f7 (by simp)
      obtain ⟨p9, t9⟩ := M_enters t7 (by simp) (wkA (s_r σ) x.toNatClampNeg (s_F σ)).toInt64
      have f9 := fs_X12_enters (wkA (s_r σ) x.toNatClampNeg (s_F σ)).toInt64 μ7
      have f9' := f7'.call f9 (by simp)
      have hF9 := hF7.fs f9 (by simp)
      have hu9 := hu7.fs f9 (by simp)
      generalize e_X12_enters (wkA (s_r σ) x.toNatClampNeg (s_F σ)).toInt64 μ7 = μ9 at *
      obtain ⟨q9, w9⟩ := M_standingOn hF9 9
      rw [w9]
      obtain ⟨p10, t10⟩ := M_enters t9 (by simp) (v_J6_bitCount_0f7a4 (staA (goA (s_r σ) x.toNatClampNeg (s_F σ)) 9)).toInt64
      have f10 := fs_X12_enters (v_J6_bitCount_0f7a4 (staA (goA (s_r σ) x.toNatClampNeg (s_F σ)) 9)).toInt64 μ9
      have f10' := f9'.call f10 (by simp)
      have hF10 := hF9.fs f10 (by simp)
      have hu10 := hu9.fs f10 (by simp)
      generalize e_X12_enters (v_J6_bitCount_0f7a4 (staA (goA (s_r σ) x.toNatClampNeg (s_F σ)) 9)).toInt64 μ9 = μ10 at *
      obtain ⟨q10, w10⟩ := M_standingOn hF10 (-9)
      rw [w10]
      obtain ⟨p11, t11⟩ := M_enters t10 (by simp) (v_J6_bitCount_0f7a4 (staA (goA (s_r σ) x.toNatClampNeg (s_F σ)) (-9))).toInt64
      have f11 := fs_X12_enters (v_J6_bitCount_0f7a4 (staA (goA (s_r σ) x.toNatClampNeg (s_F σ)) (-9))).toInt64 μ10
      have f11' := f10'.call f11 (by simp)
      have hF11 := hF10.fs f11 (by simp)
      have hu11 := hu10.fs f11 (by simp)
      generalize e_X12_enters (v_J6_bitCount_0f7a4 (staA (goA (s_r σ) x.toNatClampNeg (s_F σ)) (-9))).toInt64 μ10 = μ11 at *
      obtain ⟨q12, w12⟩ := M_moment hF11
      rw [w12]
      obtain ⟨d1, d2, d3⟩ := M_adds hu11 (2000 + momA (goA (s_r σ) x.toNatClampNeg (s_F σ)))
      have fA := fs_X12_adds (2000 + momA (goA (s_r σ) x.toNatClampNeg (s_F σ))) μ11
      have hM := M_done2 (V := 0) hm0 (go_n _) g0 hF11 f11' (by decide) fA d3
      exact ⟨fun _ => ⟨b1, m1, p9, q9, p10, q10, p11, q12, d1⟩, d2, hM, t11.fs fA (by decide)⟩
    exact ⟨c1, g2.1, c2.trans g2.2.1.symm, Both ⟨ok, hc, hm, tc, tm⟩ (OK_act ok (RgF_go ok.g _) (go_n _) 0) c3 c4 g2.2.2.1 g2.2.2.2 fM (by decide)⟩
end CA

/-! law -/
section LW
variable {σ : ST} {R : List Int64} {μ : Mm}
def lwF (σ : ST) (r : List Nat) : FL := goA r (f_z (s_F σ) - f_t (s_F σ)).toNatClampNeg (s_F σ)
def lwR (σ : ST) (r : List Nat) : List Int64 := [] ++ [(1 + dirA (momA (lwF σ r))).toInt64] ++ [(1 + dirA (momA (lwF σ (s_r σ)))).toInt64] ++ rows (plc (lwF σ r)) (f_n (lwF σ r))
def lwV (σ : ST) (r : List Nat) : Int32 := 5000 + momA (lwF σ r) - momA (lwF σ (s_r σ))
theorem RuM_W {r : List Nat} (h : RuM r μ) (hl : r.length ≤ 40) : ∃ W : List Nat, W.length ≤ 40 ∧ μ.1 49 19 = nI W.length ∧ (∀ i, i < W.length → μ.1 57 i = nI (W.getD i 0)) ∧ ((W = [] ∧ r = ru0) ∨ (W ≠ [] ∧ r = W)) := by
  rcases h with ⟨h1, h2, h3⟩ | ⟨h1, h2⟩
  · exact ⟨r, hl, h2, h3, .inr ⟨List.length_pos_iff.mp h1, rfl⟩⟩
  · exact ⟨[], by simp, h1, fun i hi => absurd hi (by simp), .inl ⟨rfl, h2⟩⟩
theorem M_law43 {W : List Nat} (hl : W.length ≤ 40) (h19 : μ.1 49 19 = nI W.length) (h57 : ∀ i, i < W.length → μ.1 57 i = nI (W.getD i 0)) (x y : Int32) : whP (fun s : Int32 × Int32 × Int32 × Mm => bd_X12_law_43 s.1 s.2.1 s.2.2.1 s.2.2.2) (fun s : Int32 × Int32 × Int32 × Mm => sd_X12_law_43 s.1 s.2.1 s.2.2.1 s.2.2.2) FU (x, y, 0, μ) ∧ (fun z : Int32 × Int32 × Mm => z.1 = x ∧ z.2.1 = y ∧ Fr [74] μ z.2.2 ∧ ∀ j, j < W.length → (z.2.2).1 74 j = nI (W.getD j 0)) (whl (fun s : Int32 × Int32 × Int32 × Mm => bd_X12_law_43 s.1 s.2.1 s.2.2.1 s.2.2.2) (fun s : Int32 × Int32 × Int32 × Mm => (0, 0, s.2.2.2)) FU (x, y, 0, μ)) := by
  refine lpI (f := fun s : Int32 × Int32 × Int32 × Mm => bd_X12_law_43 s.1 s.2.1 s.2.2.1 s.2.2.2) (sd := fun s : Int32 × Int32 × Int32 × Mm => sd_X12_law_43 s.1 s.2.1 s.2.2.1 s.2.2.2) (dd := fun s : Int32 × Int32 × Int32 × Mm => (0, 0, s.2.2.2))
    (I := fun i s => i ≤ W.length ∧ ∃ μ', s = (x, y, nI i, μ') ∧ Fr [74] μ μ' ∧ ∀ j, j < i → μ'.1 74 j = nI (W.getD j 0))
    (R := fun z : Int32 × Int32 × Mm => z.1 = x ∧ z.2.1 = y ∧ Fr [74] μ z.2.2 ∧ ∀ j, j < W.length → (z.2.2).1 74 j = nI (W.getD j 0)) W.length (by omega) ?_ (s0 := (x, y, 0, μ)) ⟨Nat.zero_le _, μ, rfl, Fr.rfl, fun j hj => absurd hj (by omega)⟩
  rintro i _ hi ⟨hi2, μ', rfl, hf, hz⟩
  dsimp only
  unfold sd_X12_law_43 bd_X12_law_43
  have z1 : μ'.1 49 19 = nI W.length := by rw [hf.1 49 (by decide)]; exact h19
  rw [z1, nI_clamp (show i < 2 ^ 31 by omega), nI_1]
  simp only [nI_leI (show W.length < 2 ^ 31 by omega) (show i < 2 ^ 31 by omega)]
  rcases Nat.lt_or_ge i W.length with z | z
  · rw [if_neg (show ¬ W.length ≤ i by omega)]
    have v := vp_in_nI (N := 80) (show i < 80 by omega) (by omega)
    refine ⟨fun _ => ⟨v, v⟩, .inl ⟨_, rfl, z, z, _, rfl, hf.up (by simp), fun j hj => ?_⟩⟩
    rw [rI]
    by_cases q : j = i
    · rw [if_pos ⟨rfl, q⟩, hf.1 57 (by decide), q]; exact h57 i z
    · rw [if_neg (by omega)]; exact hz j (by omega)
  · have e : i = W.length := by omega
    rw [e] at hz
    rw [if_pos z]
    exact ⟨fun y => absurd z y, .inr ⟨_, rfl, rfl, rfl, hf, hz⟩⟩
theorem lw_b : ∀ b, b ≤ 40 → (-1 - nI b + 1 - 10000 : Int32) = -10000 - nI b := by decide +kernel
theorem C_law (ok : OK σ) (hc : CS σ μ) (tc : ToC R μ) : p_X11_law μ ∧ ∃ b S, ((s_T σ).length = 0 ∨ EnR (s_T σ) rs0 (min 40 (s_T σ).length) b S) ∧ b ≤ 40 ∧ ((okR (s_T σ) b S ∧ v_X11_law μ = lwV σ (rdL (s_T σ) S) ∧ CS (setT σ []) (e_X11_law μ) ∧ ToC (lwR σ (rdL (s_T σ) S)) (e_X11_law μ) ∧ (rdL (s_T σ) S).length ≤ 40 ∧ wfd (rdL (s_T σ) S) 0) ∨ (¬ okR (s_T σ) b S ∧ v_X11_law μ = -10000 - nI b ∧ CS (setT σ []) (e_X11_law μ) ∧ ToC R (e_X11_law μ))) := by
  have hT : ∀ i, chT (s_T σ) i < 256 := ok.2.2.1
  obtain ⟨p1, b, S, hE, hb, h1⟩ := C_read hc.T hT
  have f2 := fr_X5_read 20 μ
  have hc2 : CS σ (e_X5_read 20 μ) := hc.fr f2 (by decide)
  have tc2 := tc.fr f2 (by decide)
  have hc3 := C_clear hc2
  have f3 := fr_X9_clear (e_X5_read 20 μ)
  have tc3 := tc2.fr f3 (by decide)
  unfold p_X11_law v_X11_law e_X11_law
  simp only [forall_eq]
  rcases h1 with ⟨g1, g2, g3⟩ | ⟨g1, g2⟩
  · have g4 := g3.fr f3 (by decide)
    rw [g2]
    simp only [if_true, true_imp_iff]
    generalize e_X9_clear (e_X5_read 20 μ) = μ3 at hc3 tc3 g4 ⊢
    have ok1 := OK_setT ok
    obtain ⟨p6, h6⟩ := CTR_become ok1 hc3 tc3
    have g6 := g4.fr (fr_X1_become 8 1 μ3) (by decide)
    generalize e_X1_become 8 1 μ3 = μ6 at h6 g6 ⊢
    obtain ⟨p8, v8, h8⟩ := CTR_noon h6
    have g8 := g6.fr (fr_X1_goTillNoon 8 15 μ6) (by decide)
    rw [v8]
    generalize e_X1_goTillNoon 8 15 μ6 = μ8 at h8 g8 ⊢
    obtain ⟨p10, h10⟩ := CTR_become ok1 h8.2.2.1 h8.2.2.2.2
    have g10 := g8.fr (fr_X1_become 8 1 μ8) (by decide)
    generalize e_X1_become 8 1 μ8 = μ10 at h10 g10 ⊢
    obtain ⟨p12, v12, h12⟩ := C_goTillNoon h10.2.2.2.1 g10 h10.2.1 (.inr rfl) (.inr rfl)
    have f12 := fr_X1_goTillNoon 8 20 μ10
    rw [v12]
    have t12 : CTR (setT σ []) (lwF σ (rdL (s_T σ) S)) R (e_X1_goTillNoon 8 20 μ10) := ⟨ok1, RgF_go ok.g _, h10.2.2.1.fr f12 (by decide), h12, h10.2.2.2.2.fr f12 (by decide)⟩
    generalize e_X1_goTillNoon 8 20 μ10 = μ12 at t12 ⊢
    have t13 := CTR_begin t12
    generalize e_X10_begin μ12 = μ13 at t13 ⊢
    rw [dir_C, dir_C]
    have ea : momA (goA (rdL (s_T σ) S) (f_z (s_F (setT σ [])) - f_t (s_F (setT σ []))).toNatClampNeg (s_F (setT σ []))) = momA (lwF σ (rdL (s_T σ) S)) := rfl
    have eb : momA (goA (s_r (setT σ [])) (f_z (s_F (setT σ [])) - f_t (s_F (setT σ []))).toNatClampNeg (s_F (setT σ []))) = momA (lwF σ (s_r σ)) := rfl
    rw [ea, eb]
    obtain ⟨p15, t15⟩ := CTR_add t13 (by simp) (1 + dirA (momA (lwF σ (rdL (s_T σ) S)))).toInt64
    generalize e_X10_add (1 + dirA (momA (lwF σ (rdL (s_T σ) S)))).toInt64 μ13 = μ15 at t15 ⊢
    obtain ⟨p17, t17⟩ := CTR_add t15 (by simp) (1 + dirA (momA (lwF σ (s_r σ)))).toInt64
    generalize e_X10_add (1 + dirA (momA (lwF σ (s_r σ)))).toInt64 μ15 = μ17 at t17 ⊢
    obtain ⟨p19, t19⟩ := C_tells t17 (by simp)
    exact ⟨⟨p1, p6, p8, p10, p12, p15, p17, p19⟩, b, S, hE, hb, .inl ⟨g1, rfl, t19.2.2.1, t19.2.2.2.2, g3.1, g3.2.1⟩⟩
  · have gn : ¬ (nI b = -1) := nI_nm1 (by omega)
    rw [g2]
    simp only [gn, if_false, false_imp_iff, and_true]
    exact ⟨p1, b, S, hE, hb, .inr ⟨g1, rfl, hc3, tc3⟩⟩
def lwL : List Nat := [50, 53, 57, 58, 59, 60, 62, 74, 1000, 1001, 1009, 1010, 1011, 1012, 1019, 1020]
theorem M_law (ok : OK σ) (h : MSR σ R μ) (hw : ∀ b S, ((s_T σ).length = 0 ∨ EnR (s_T σ) rs0 (min 40 (s_T σ).length) b S) → okR (s_T σ) b S → (rdL (s_T σ) S).length ≤ 40 ∧ wfd (rdL (s_T σ) S) 0) : p_X12_law μ ∧ Fs lwL μ (e_X12_law μ) ∧ ∃ b S, ((s_T σ).length = 0 ∨ EnR (s_T σ) rs0 (min 40 (s_T σ).length) b S) ∧ b ≤ 40 ∧ ((okR (s_T σ) b S ∧ v_X12_law μ = lwV σ (rdL (s_T σ) S) ∧ MSR (setT σ []) (lwR σ (rdL (s_T σ) S)) (e_X12_law μ)) ∨ (¬ okR (s_T σ) b S ∧ v_X12_law μ = -10000 - nI b ∧ MSR (setT σ []) R (e_X12_law μ))) := by
  have hm0 : MSR σ R (upI μ 49 0 0) := ⟨h.1.th 0, h.2.th 0⟩
  obtain ⟨m1, b, S, hE, hb, m2, m3, m4⟩ := M_readsRule ok hm0
  have f0 : Fs lwL μ (upI μ 49 0 0) := Fs.rfl.upF (by decide)
  have f3 := f0.call m3 (by decide)
  have ok1 := OK_setT ok
  unfold p_X12_law v_X12_law e_X12_law
  simp only [forall_eq]
  rcases m4 with ⟨g1, g2, L, l1, l2, l3⟩ | ⟨g1, g2⟩
  · obtain ⟨w1, w2⟩ := hw b S hE g1
    have g00 : (0 : Int32) ≤ 0 := by decide
    rw [g2]
    simp only [g00, if_true, true_imp_iff]
    generalize e_X12_readsRule (upI μ 49 0 0) = μ3 at m2 f3 l2 ⊢
    obtain ⟨p6, h6⟩ := MTR_noon ok1 m2.1 m2.2
    have k6 := fs_X12_goesToNoon μ3
    have L6 := l2.fs k6 (by decide)
    have f6 := f3.call k6 (by decide)
    generalize e_X12_goesToNoon μ3 = μ6 at h6 L6 f6 ⊢
    obtain ⟨q6, v6⟩ := MTR_mom h6
    obtain ⟨W, W1, W2, W3, W4⟩ := RuM_W h6.2.2.1.r ok.rl
    rw [v6, W2]
    obtain ⟨p9, r1, r2, r3, r4⟩ := M_law43 W1 W2 W3 (momA (goA (s_r (setT σ [])) (f_z (s_F (setT σ [])) - f_t (s_F (setT σ []))).toNatClampNeg (s_F (setT σ [])))) (nI W.length)
    generalize (whl _ _ FU ((momA (goA (s_r (setT σ [])) (f_z (s_F (setT σ [])) - f_t (s_F (setT σ []))).toNatClampNeg (s_F (setT σ []))), nI W.length, 0, μ6) : Int32 × Int32 × Int32 × Mm) : Int32 × Int32 × Mm) = z at r1 r2 r3 r4 ⊢
    rw [r1, r2]
    have L9 := L6.fs r3.s (by decide)
    have f9 := f6.call r3.s (by decide)
    have h9 : MS (setT σ []) z.2.2 := h6.2.2.1.fs r3.s (by decide)
    have t9 : ToM R z.2.2 := h6.2.2.2.2.fs r3.s (by decide)
    rw [L9.1]
    obtain ⟨p11, y1, y2⟩ := M_lays (p0 := 58) (by decide) (by omega) L9.2
    have k11 := fs_X12_laysCode 58 (nI L.length) z.2.2
    have f11 := f9.call k11 (by decide)
    have c11 : ∀ j, j < W.length → (e_X12_laysCode 58 (nI L.length) z.2.2).1 74 j = nI (W.getD j 0) := fun j hj => by
      rw [k11.1 74 j (by decide) (.inl (by decide))]; exact r4 j hj
    have h11 : MS (setR (setT σ []) (rdL (s_T σ) S)) (e_X12_laysCode 58 (nI L.length) z.2.2) := MS_setR h9 k11 (RuM_L y1 y2 l3) (by decide)
    have t11 := t9.fs k11 (by decide)
    generalize e_X12_laysCode 58 (nI L.length) z.2.2 = μ11 at f11 c11 h11 t11 ⊢
    obtain ⟨p13, h13⟩ := MTR_noon (OK_setR ok1 w1 w2) h11 t11
    have k13 := fs_X12_goesToNoon μ11
    have f13 := f11.call k13 (by decide)
    have c13 : ∀ j, j < W.length → (e_X12_goesToNoon μ11).1 74 j = nI (W.getD j 0) := fun j hj => by
      rw [k13.1 74 j (by decide) (.inl (by decide))]; exact c11 j hj
    generalize e_X12_goesToNoon μ11 = μ13 at h13 f13 c13 ⊢
    obtain ⟨p15, x1, x2⟩ := M_lays (p0 := 74) (by decide) (by omega) c13
    have k15 := fs_X12_laysCode 74 (nI W.length) μ13
    have f15 := f13.call k15 (by decide)
    have h15 : MS (setT σ []) (e_X12_laysCode 74 (nI W.length) μ13) := MS_setR (σ := setR (setT σ []) (rdL (s_T σ) S)) h13.2.2.1 k15 (RuM_L x1 x2 W4) (by decide)
    have t15 : MTR (setT σ []) (lwF σ (rdL (s_T σ) S)) R (e_X12_laysCode 74 (nI W.length) μ13) := ⟨ok1, RgF_go ok.g _, h15, h13.2.2.2.1.fs k15 (by decide), h13.2.2.2.2.fs k15 (by decide)⟩
    generalize e_X12_laysCode 74 (nI W.length) μ13 = μ15 at f15 t15 ⊢
    obtain ⟨q15, v15⟩ := MTR_mom t15
    rw [v15, dir_M, dir_M]
    have eb : momA (goA (s_r (setT σ [])) (f_z (s_F (setT σ [])) - f_t (s_F (setT σ []))).toNatClampNeg (s_F (setT σ []))) = momA (lwF σ (s_r σ)) := rfl
    rw [eb]
    have t17 := MTR_begin t15
    have f17 : Fs lwL μ (upI μ15 49 1 0) := f15.upF (by decide)
    generalize upI μ15 49 1 0 = μ17 at t17 f17 ⊢
    obtain ⟨p19, t19⟩ := MTR_add t17 (by simp) (1 + dirA (momA (lwF σ (rdL (s_T σ) S)))).toInt64
    have f19 := f17.call (fs_X12_enters (1 + dirA (momA (lwF σ (rdL (s_T σ) S)))).toInt64 μ17) (by decide)
    generalize e_X12_enters (1 + dirA (momA (lwF σ (rdL (s_T σ) S)))).toInt64 μ17 = μ19 at t19 f19 ⊢
    obtain ⟨p21, t21⟩ := MTR_add t19 (by simp) (1 + dirA (momA (lwF σ (s_r σ)))).toInt64
    have f21 := f19.call (fs_X12_enters (1 + dirA (momA (lwF σ (s_r σ)))).toInt64 μ19) (by decide)
    generalize e_X12_enters (1 + dirA (momA (lwF σ (s_r σ)))).toInt64 μ19 = μ21 at t21 f21 ⊢
    obtain ⟨p23, t23⟩ := M_tells t21 (by simp)
    have f23 := f21.call (fs_X12_entersPlaces μ21) (by decide)
    exact ⟨⟨m1, p6, q6, p9, p11, p13, p15, q15, p19, p21, p23⟩, f23, b, S, hE, hb, .inl ⟨g1, rfl, t23.2.2.1, t23.2.2.2.2⟩⟩
  · have gm : ¬ ((0 : Int32) ≤ -1 - nI b) := by
      rw [fa_le, t0, toInt_subS (by rw [nI_toInt (by omega), show (-1 : Int32).toInt = -1 by decide +kernel]; omega), nI_toInt (by omega), show (-1 : Int32).toInt = -1 by decide +kernel]
      omega
    rw [g2]
    simp only [gm, if_false, false_imp_iff, and_true]
    exact ⟨m1, f3, b, S, hE, hb, .inr ⟨g1, lw_b b hb, m2⟩⟩
theorem call_law (h : Sim σ R μ) : Call (p_X11_law μ) (p_X12_law (e_X11_law μ)) (v_X11_law μ) (v_X12_law (e_X11_law μ)) (e_X12_law (e_X11_law μ)) := by
  obtain ⟨ok, hc, hm, tc, tm⟩ := h
  have fC := fr_X11_law μ
  have hm1 : MSR σ R (e_X11_law μ) := ⟨hm.frC fC (by decide), tm.frC fC (by decide)⟩
  obtain ⟨p1, b, S, hE, hb, c1⟩ := C_law ok hc tc
  have hw : ∀ b' S', ((s_T σ).length = 0 ∨ EnR (s_T σ) rs0 (min 40 (s_T σ).length) b' S') → okR (s_T σ) b' S' → (rdL (s_T σ) S').length ≤ 40 ∧ wfd (rdL (s_T σ) S') 0 := fun b' S' hE' hg => by
    obtain ⟨u1, u2, u3⟩ := okR_uq hE hE'
    rcases c1 with ⟨g1, g2, g3, g4, g5, g6⟩ | ⟨g1, g2⟩
    · rw [← u3]; exact ⟨g5, g6⟩
    · exact absurd (u1.mpr hg) g1
  obtain ⟨m1, fM, b', S', hE', hb', m2⟩ := M_law ok hm1 hw
  obtain ⟨u1, u2, u3⟩ := okR_uq hE hE'
  refine ⟨p1, m1, ?_⟩
  rcases c1 with ⟨g1, g2, g3, g4, g5, g6⟩ | ⟨g1, g2, g3, g4⟩
  · rcases m2 with ⟨d1, d2, d3⟩ | ⟨d1, d2, d3⟩
    · rw [← u3] at d2 d3
      exact ⟨g2.trans d2.symm, Both (σ' := setT σ []) ⟨ok, hc, hm, tc, tm⟩ (OK_setT ok) g3 g4 d3.1 d3.2 fM (by decide)⟩
    · exact absurd (u1.mp g1) d1
  · rcases m2 with ⟨d1, d2, d3⟩ | ⟨d1, d2, d3⟩
    · exact absurd (u1.mpr d1) g1
    · rw [← u2 g1] at d2
      exact ⟨g2.trans d2.symm, Both (σ' := setT σ []) ⟨ok, hc, hm, tc, tm⟩ (OK_setT ok) g3 g4 d3.1 d3.2 fM (by decide)⟩
end LW

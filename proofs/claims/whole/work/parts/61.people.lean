/-! people -/
section PP
variable {σ : ST} {R : List Int64} {μ : Mm}
def setT (σ : ST) (T : List Nat) : ST := (s_F σ, s_r σ, T, s_U σ, s_K σ, s_S σ, s_H σ)
theorem C_clear (h : CS σ μ) : CS (setT σ []) (e_X9_clear μ) := by
  have f := fr_X9_clear μ
  refine ⟨h.F.fr f (by decide), h.r.fr f (by decide), ⟨by simp [setT, s_T], ?_, fun i hi => absurd hi (by simp [setT, s_T])⟩, h.U.fr f (by decide), h.K.fr f (by decide), h.S.fr f (by decide), h.H.fr f (by decide)⟩
  unfold e_X9_clear
  dsimp only
  rw [rI, if_pos ⟨rfl, rfl⟩]; rfl
theorem M_begins (hm : MS σ μ) {m : Nat} (hm2 : m < 100) : v_X12_begins (nI m) μ = nI (s_T σ).length ∧ Rd (s_T σ) 0 (min m (s_T σ).length) (e_X12_begins (nI m) μ) ∧ MS (setT σ []) (e_X12_begins (nI m) μ) := by
  have hx := hm.T
  have hl := hx.1
  have f := fs_X12_begins (nI m) μ
  have h9 : μ.1 49 9 = nI (s_T σ).length := hx.2.1
  refine ⟨h9, ⟨hl, by omega, Nat.zero_le _, ?_, ?_, fun i hi => ?_⟩, hm.F.fs f (by decide), hm.r.fs f (by decide), ⟨by simp [setT, s_T], ?_, fun i hi => absurd hi (by simp [setT, s_T])⟩, hm.U.fs f (by decide), hm.K.fs f (by decide), hm.S.fs f (by decide), hm.H.fs f (by decide)⟩
  · unfold e_X12_begins
    dsimp only
    rw [rI, if_neg (by omega), rI, if_neg (by omega), rI, if_pos ⟨rfl, rfl⟩]; rfl
  · unfold e_X12_begins
    dsimp only
    rw [rI, if_pos ⟨rfl, rfl⟩, h9]
    by_cases q : m < (s_T σ).length
    · rw [if_pos ((nI_ltI (by omega) (by omega)).mpr q), show min m (s_T σ).length = m by omega]
    · rw [if_neg (fun y => q ((nI_ltI (by omega) (by omega)).mp y)), show min m (s_T σ).length = (s_T σ).length by omega]
  · unfold e_X12_begins
    dsimp only
    rw [rI, if_neg (by omega), rI, if_neg (by omega), rI, if_neg (by omega), rI, if_neg (by omega)]
    exact hx.2.2 i hi
  · unfold e_X12_begins
    dsimp only
    rw [rI, if_neg (by omega), rI, if_neg (by omega), rI, if_neg (by omega), rI, if_pos ⟨rfl, rfl⟩]; rfl
theorem C_loseAll {U : List Rw} (hu : UnC U μ) : p_X3_loseAll μ ∧ UnC [] (e_X3_loseAll μ) ∧ KeC (fun _ => none) (e_X3_loseAll μ) := by
  unfold p_X3_loseAll e_X3_loseAll
  simp only [forall_eq]
  have key := lpI (f := fun s : Int32 × Mm => bd_X3_loseAll_7 s.1 s.2) (sd := fun s : Int32 × Mm => sd_X3_loseAll_7 s.1 s.2) (dd := fun s : Int32 × Mm => s.2) (I := fun i s => i ≤ 3 ∧ ∃ μ', s = (nI i, μ') ∧ Fr [32] (upI μ 29 2 0) μ' ∧ ∀ j, j < i → μ'.1 32 j = 0)
    (R := fun z : Mm => Fr [32] (upI μ 29 2 0) z ∧ ∀ j, j < 3 → z.1 32 j = 0) 3 (by omega) ?_ (s0 := (0, upI μ 29 2 0)) ⟨Nat.zero_le _, _, rfl, Fr.rfl, fun j hj => absurd hj (by omega)⟩
  · obtain ⟨k1, k2, k3⟩ := key
    refine ⟨k1, ?_, fun i hi => ⟨k3 i hi, fun S hS => by cases hS⟩⟩
    generalize whl _ _ FU _ = z at k2 k3 ⊢
    obtain ⟨-, -, nx, u1, u2, -⟩ := hu
    refine ⟨by simp, ?_, nx, u1, ?_, fun j hj => absurd hj (by simp)⟩
    · rw [k2.1 29 (by decide), rI, if_pos ⟨rfl, rfl⟩]; rfl
    · rw [k2.1 29 (by decide), rI, if_neg (by omega)]; exact u2
  · rintro i _ hi ⟨hi2, μ', rfl, hf, hz⟩
    dsimp only
    unfold sd_X3_loseAll_7 bd_X3_loseAll_7
    rw [vnb0, nI_1, show (3 : Int32) = nI 3 from rfl]
    simp only [nI_leI (show 3 < 2 ^ 31 by omega) (show i < 2 ^ 31 by omega), nI_clamp (show i < 2 ^ 31 by omega)]
    rcases Nat.lt_or_ge i 3 with z | z
    · rw [if_neg (by omega)]
      refine ⟨fun _ => vp_in_nI z (by omega), .inl ⟨_, rfl, z, z, _, rfl, hf.up (by simp), fun j hj => ?_⟩⟩
      rw [rI]
      by_cases q : j = i
      · rw [if_pos ⟨rfl, q⟩]
      · rw [if_neg (by omega)]; exact hz j (by omega)
    · have e : i = 3 := by omega
      subst e
      rw [if_pos (Nat.le_refl 3)]
      exact ⟨fun y => absurd (Nat.le_refl 3) y, .inr ⟨_, rfl, hf, hz⟩⟩
/-- the text is people's -/
def gdP (σ : ST) : Bool := gdL (s_T σ) (7 - f_n (s_F σ)) (min 27 (s_T σ).length) && decide ((s_T σ).length ≤ 27)
def bdP (σ : ST) : Nat := bdL (s_T σ) (7 - f_n (s_F σ)) (min 27 (s_T σ).length)
def ppV (σ : ST) : Int32 := if (s_T σ).length = 0 then 0 else if gdP σ then nI (((s_T σ).length + 1) / 4) else -1 - nI (bdP σ)
def ppS (σ : ST) : ST := if (s_T σ).length = 0 then setT σ [] else if gdP σ then (jnF (s_T σ) (s_T σ).length (s_F σ) (((s_T σ).length + 1) / 4), s_r σ, [], [], (fun _ => none), s_S σ, s_H σ) else setT σ []
theorem bdL_le (T : List Nat) (room e : Nat) : bdL T room e ≤ e ∧ ∀ j, j < bdL T room e → stL T room j = true := by
  obtain ⟨f1, f2⟩ := ff_spec (fun i => !stL T room i) e 0
  unfold bdL
  cases ho : ff (fun i => !stL T room i) 0 e with
  | none =>
    refine ⟨Nat.le_refl _, fun j hj => ?_⟩
    have := f2 ho j (by omega) (by have hj' : j < e := hj; omega)
    simpa using this
  | some s =>
    obtain ⟨-, c2, c3, c4⟩ := f1 s ho
    refine ⟨by show s ≤ e; omega, fun j hj => ?_⟩
    have := c4 j (by omega) hj
    simpa using this
theorem gdP_x (h0 : ¬ (s_T σ).length = 0) (h : gdP σ = true) (hn : f_n (s_F σ) ≤ 7) : min 27 (s_T σ).length = (s_T σ).length ∧ bdP σ = (s_T σ).length ∧ (∃ L, (s_T σ).length = 4 * L + 3 ∧ f_n (s_F σ) + (L + 1) ≤ 7) ∧ ∀ j, j < (s_T σ).length → stL (s_T σ) (7 - f_n (s_F σ)) j = true := by
  unfold gdP gdL at h
  simp only [Bool.and_eq_true, decide_eq_true_eq] at h
  have em : min 27 (s_T σ).length = (s_T σ).length := by omega
  rw [em] at h
  have hs := (bdL_le (s_T σ) (7 - f_n (s_F σ)) (s_T σ).length).2
  rw [h.1.1] at hs
  refine ⟨em, by unfold bdP; rw [em]; exact h.1.1, ⟨((s_T σ).length - 3) / 4, by omega, ?_⟩, hs⟩
  have := hs (4 * (((s_T σ).length - 3) / 4)) (by omega)
  rw [st0] at this
  simp only [Bool.and_eq_true, decide_eq_true_eq] at this
  omega
theorem nI_nm1 {b : Nat} (h : b < 1000) : ¬ nI b = -1 := by
  rw [fa_eq, nI_toInt (by omega), show (-1 : Int32).toInt = -1 by decide +kernel]; omega
theorem C_people (ok : OK σ) (h : CS σ μ) : p_X11_people μ ∧ v_X11_people μ = ppV σ ∧ CS (ppS σ) (e_X11_people μ) := by
  have hg := ok.g
  have hn := hg.1
  have hT : ∀ i, chT (s_T σ) i < 256 := ok.2.2.1
  have hx := h.T
  have hl := hx.1
  obtain ⟨b1, b2⟩ := C_badLine hx hT (room := 7 - f_n (s_F σ)) (by omega)
  have e7 : (7 : Int32) - μ.1 1 0 = nI (7 - f_n (s_F σ)) := by
    rw [h.F.sz, show (7 : Int32) = nI 7 from rfl, nI_sub hn]
  have el : (μ.1 25 1 + 1) / 4 = nI (((s_T σ).length + 1) / 4) := by
    rw [hx.2.1, nI_1, (nI_d4 ((s_T σ).length + 1) (by omega)).1]
  have hb := (bdL_le (s_T σ) (7 - f_n (s_F σ)) (min 27 (s_T σ).length)).1
  unfold p_X11_people v_X11_people e_X11_people ppV ppS
  simp only [e7, el]
  by_cases q0 : (s_T σ).length = 0
  · rw [if_pos q0] at b2
    have g0 : nI (((s_T σ).length + 1) / 4) ≤ 0 := by rw [q0]; decide
    have v0 : nI (((s_T σ).length + 1) / 4) = 0 := by rw [q0]; rfl
    simp only [b2, g0, if_true, q0, not_true_eq_false, false_imp_iff, implies_true, and_true]
    exact ⟨⟨b1, fun _ y => absurd (show nI ((0 + 1) / 4) ≤ 0 by decide) y⟩, rfl, C_clear h⟩
  · rw [if_neg q0] at b2
    simp only [if_neg q0]
    cases q : gdP σ
    · have b2' : v_X9_badLineSign (nI (7 - f_n (s_F σ))) μ = nI (bdP σ) := by
        rw [b2]
        unfold gdP gdL at q
        unfold bdP
        by_cases w : bdL (s_T σ) (7 - f_n (s_F σ)) (min 27 (s_T σ).length) < min 27 (s_T σ).length
        · rw [if_pos w]
        · have we : bdL (s_T σ) (7 - f_n (s_F σ)) (min 27 (s_T σ).length) = min 27 (s_T σ).length := by omega
          rw [if_neg w, we]
          rw [decide_eq_true we, Bool.true_and] at q
          by_cases y : (s_T σ).length ≤ 27 ∧ (s_T σ).length % 4 = 3
          · exfalso
            rw [show min 27 (s_T σ).length = (s_T σ).length by omega, decide_eq_true y.2, decide_eq_true y.1] at q
            exact absurd q (by decide)
          · rw [if_neg y]
      have hb' : bdP σ < 1000 := by unfold bdP; omega
      have gn := nI_nm1 hb'
      simp only [b2', gn, if_false, Bool.false_eq_true, false_imp_iff, and_true]
      exact ⟨b1, trivial, C_clear h⟩
    · obtain ⟨x1, x2, ⟨L, x3, x4⟩, x5⟩ := gdP_x q0 q hn
      have b2' : v_X9_badLineSign (nI (7 - f_n (s_F σ))) μ = -1 := by
        have x2' : bdL (s_T σ) (7 - f_n (s_F σ)) (min 27 (s_T σ).length) = (s_T σ).length := x2
        rw [b2, x2', if_neg (by omega), if_pos (by omega)]
      have eL : ((s_T σ).length + 1) / 4 = L + 1 := by omega
      have g0 : ¬ (nI (L + 1) ≤ 0) := by rw [fa_le, t0, nI_toInt (by omega)]; omega
      obtain ⟨k1, k2, k3, k4⟩ := C_pp41 h.F hg hx hT x3 x4 x5 (-1)
      have k5 := fw_X11_people_41 (-1, nI (L + 1), 0, μ)
      simp only [b2', eL, g0, if_true, if_false, not_false_eq_true, true_imp_iff, forall_eq]
      generalize whl _ _ FU _ = z at k2 k3 k4 k5 ⊢
      rw [k2, k3]
      have hu := h.U.fr k5 (by decide)
      obtain ⟨l1, l2, l3⟩ := C_loseAll hu
      have f2 := fr_X3_loseAll z.2.2
      refine ⟨⟨b1, k1, l1⟩, by rw [if_pos rfl], ?_⟩
      have : CS (jnF (s_T σ) (s_T σ).length (s_F σ) (L + 1), s_r σ, s_T σ, [], (fun _ => none), s_S σ, s_H σ) (e_X3_loseAll z.2.2) := ⟨k4.fr f2 (by decide), (h.r.fr k5 (by decide)).fr f2 (by decide), (h.T.fr k5 (by decide)).fr f2 (by decide), l2, l3, (h.S.fr k5 (by decide)).fr f2 (by decide), (h.H.fr k5 (by decide)).fr f2 (by decide)⟩
      exact C_clear this
theorem M_pp0 (x : Int32) (μ : Mm) : whP (fun s : Int32 × Int32 × Int32 × Mm => bd_X12_people_29 s.1 s.2.1 s.2.2.1 s.2.2.2) (fun s : Int32 × Int32 × Int32 × Mm => sd_X12_people_29 s.1 s.2.1 s.2.2.1 s.2.2.2) FU (x, 1, 0, μ) ∧ whl (fun s : Int32 × Int32 × Int32 × Mm => bd_X12_people_29 s.1 s.2.1 s.2.2.1 s.2.2.2) (fun s : Int32 × Int32 × Int32 × Mm => (0, 0, s.2.2.2)) FU (x, 1, 0, μ) = (x, 1, μ) := by
  refine lpF (f := fun s : Int32 × Int32 × Int32 × Mm => bd_X12_people_29 s.1 s.2.1 s.2.2.1 s.2.2.2) (sd := fun s : Int32 × Int32 × Int32 × Mm => sd_X12_people_29 s.1 s.2.1 s.2.2.1 s.2.2.2) (dd := fun s : Int32 × Int32 × Int32 × Mm => (0, 0, s.2.2.2)) (fun _ => (x, 1, 0, μ)) 0 (by omega) (fun i hi => absurd hi (by omega)) ?_
  dsimp only
  unfold sd_X12_people_29 bd_X12_people_29
  rw [if_pos rfl]
  exact ⟨fun y => absurd rfl y, rfl⟩
theorem M_pp1 (h16 : μ.1 49 16 = 0) : whP (fun s : Int32 × Mm => bd_X12_people_81 s.1 s.2) (fun s : Int32 × Mm => sd_X12_people_81 s.1 s.2) FU (0, μ) ∧ whl (fun s : Int32 × Mm => bd_X12_people_81 s.1 s.2) (fun s : Int32 × Mm => s.2) FU (0, μ) = μ := by
  refine lpF (f := fun s : Int32 × Mm => bd_X12_people_81 s.1 s.2) (sd := fun s : Int32 × Mm => sd_X12_people_81 s.1 s.2) (dd := fun s : Int32 × Mm => s.2) (fun _ => (0, μ)) 0 (by omega) (fun i hi => absurd hi (by omega)) ?_
  dsimp only
  unfold sd_X12_people_81 bd_X12_people_81
  rw [h16, if_pos (by decide)]
  exact ⟨fun y => absurd (by decide) y, rfl⟩
theorem M_ppE {G : FL} {L : Nat} {r : Mm} (hm : MSR σ R μ) (hL : L + 1 ≤ 7) (hr : FlM 52 G r) (fr : Fs [51, 52, 1003] μ r) (hG : f_n G = f_n (s_F σ) + (L + 1)) : MSR (G, s_r σ, s_T σ, [], (fun _ => none), s_S σ, s_H σ) R (upI (upI r 49 23 0) 49 4 ((upI r 49 23 0).1 49 4 + 1)) := by
  obtain ⟨hm, tm⟩ := hm
  have f2 : Fs [51, 52, 1003, 1004, 1023] μ (upI (upI r 49 23 0) 49 4 ((upI r 49 23 0).1 49 4 + 1)) := ((Fs.rfl.call fr (by decide)).upF (by simp)).upF (by simp)
  refine ⟨⟨(hr.up (by omega)).up (by omega), hm.r.fs f2 (by decide), hm.T.fs f2 (by decide), ⟨by simp [s_U], ?_, fun j hj => absurd hj (by simp [s_U])⟩, ?_, hm.S.fs f2 (by decide), hm.H.fs f2 (by decide)⟩, tm.fs f2 (by decide)⟩
  · rw [rI, if_neg (by omega), rI, if_pos ⟨rfl, rfl⟩]; rfl
  · obtain ⟨c, c1, c2, c3⟩ := hm.K
    have hn := hm.F.1
    refine ⟨c + 1, ?_, ?_, fun i hi => ?_⟩
    · show c + 1 ≤ f_n G
      omega
    · rw [rI, if_pos ⟨rfl, rfl⟩, rI, if_neg (by omega), fr.1 49 4 (by decide) (.inr (by decide)), c2, nI_1]
    · rw [f2.1 75 i (by decide) (.inl (by decide)), f2.1 76 i (by decide) (.inl (by decide))]
      obtain ⟨q1, q2, q3⟩ := c3 i hi
      refine ⟨fun S hS => (by cases hS), fun _ => ?_, fun y => ?_⟩
      · by_cases y : μ.1 75 i = 0
        · exact .inl y
        · obtain ⟨d, d1, d2⟩ := q3 y
          right
          rw [d2]
          intro e
          rw [nI_eq (by omega) (by omega)] at e
          omega
      · obtain ⟨d, d1, d2⟩ := q3 y
        exact ⟨d, by omega, d2⟩
theorem M_people (ok : OK σ) (h : MSR σ R μ) : p_X12_people μ ∧ v_X12_people μ = ppV σ ∧ MSR (ppS σ) R (e_X12_people μ) := by
  have hg := ok.g
  have hn := hg.1
  have hT : ∀ i, chT (s_T σ) i < 256 := ok.2.2.1
  have n27 : nI 27 = 27 := rfl
  have h1 : MSR σ R (upI μ 49 0 0) := ⟨h.1.th 0, h.2.th 0⟩
  obtain ⟨b1, b2, b3⟩ := M_begins h1.1 (m := 27) (by omega)
  have t2 := h1.2.fs (fs_X12_begins 27 (upI μ 49 0 0)) (by decide)
  rw [n27] at b1 b2 b3
  unfold p_X12_people v_X12_people e_X12_people
  simp only [forall_eq]
  rw [b1]
  generalize e_X12_begins 27 (upI μ 49 0 0) = μ2 at b2 b3 t2 ⊢
  have f3 : Fs [1016] μ2 (upI μ2 49 16 0) := Fs.rfl.upF (by simp)
  have h3 : MSR (setT σ []) R (upI μ2 49 16 0) := ⟨b3.fs f3 (by decide), t2.fs f3 (by decide)⟩
  have r3 : Rd (s_T σ) 0 (min 27 (s_T σ).length) (upI μ2 49 16 0) := b2.up (by decide) _
  have k3 : (upI μ2 49 16 0).1 49 16 = nI 0 := by rw [rI, if_pos ⟨rfl, rfl⟩]; rfl
  generalize upI μ2 49 16 0 = μ3 at h3 r3 k3 ⊢
  have hl := b2.1
  unfold ppV ppS
  by_cases q0 : (s_T σ).length = 0
  · have g0 : nI (s_T σ).length ≤ 0 := by rw [q0]; decide
    have k3' : μ3.1 49 16 = 0 := k3
    obtain ⟨w1, w2⟩ := M_pp0 (nI (s_T σ).length) μ3
    have fv : v_X12_faultOf (nI (s_T σ).length) 27 1 μ3 = 0 := by
      unfold v_X12_faultOf
      rw [r3.2.2.2.1, r3.2.2.2.2.1, q0]; rfl
    simp only [g0, if_true, w2, fv, if_pos q0]
    obtain ⟨w3, w4⟩ := M_pp1 k3'
    have g00 : (0 : Int32) ≤ 0 := by decide
    have f0 : v_X12_flag 0 = 0 := rfl
    simp only [g00, if_true, w4, k3']
    have e1 : upI μ3 49 23 (μ3.1 49 23) = μ3 := by
      unfold upI upd
      apply Prod.ext
      · funext a b
        dsimp only
        by_cases y : a = 49
        · subst y
          by_cases z : b = 23 <;> simp [z]
        · simp [y]
      · rfl
    rw [e1, k3', if_pos g00, f0, Int32.add_zero]
    have f4 : Fs [1004] μ3 (upI μ3 49 4 (μ3.1 49 4)) := Fs.rfl.upF (by simp)
    have e2 : upI μ3 49 4 (μ3.1 49 4) = μ3 := by
      unfold upI upd
      apply Prod.ext
      · funext a b
        dsimp only
        by_cases y : a = 49
        · subst y
          by_cases z : b = 4 <;> simp [z]
        · simp [y]
      · rfl
    rw [e2, k3']
    exact ⟨⟨w1, fun _ => w3⟩, rfl, h3⟩
  · have g0 : ¬ (nI (s_T σ).length ≤ 0) := by rw [fa_le, t0, nI_toInt (by omega)]; omega
    obtain ⟨k1, k2, k4, k5, k6⟩ := M_pp29 h3 r3 hT (by omega) (by omega) hn k3 (nI (s_T σ).length)
    simp only [g0, if_false, if_neg q0]
    generalize (whl _ _ FU ((nI (s_T σ).length, 1, 1, μ3) : Int32 × Int32 × Int32 × Mm) : Int32 × Int32 × Mm) = z at k2 k4 k5 k6 ⊢
    have k5' : Rd (s_T σ) (bdL (s_T σ) (7 - f_n (s_F σ)) (min 27 (s_T σ).length)) (min 27 (s_T σ).length) z.2.2 := k5
    have hb : if gdL (s_T σ) (7 - f_n (s_F σ)) (min 27 (s_T σ).length) then z.2.1 = 1 else z.2.1 = 0 ∨ bdL (s_T σ) (7 - f_n (s_F σ)) (min 27 (s_T σ).length) ≠ min 27 (s_T σ).length := by
      have k6' : if gdL (s_T σ) (7 - f_n (s_F σ)) (min 27 (s_T σ).length) then z.2.1 = 1 ∧ _ else _ := k6
      cases y : gdL (s_T σ) (7 - f_n (s_F σ)) (min 27 (s_T σ).length)
      · rw [y] at k6'; exact k6'
      · rw [y] at k6'; exact k6'.1
    have fv := M_fault (by omega) hl rfl k5' hb
    rw [k2]
    have eg : (gdL (s_T σ) (7 - f_n (s_F σ)) (min 27 (s_T σ).length) && decide ((s_T σ).length ≤ 27)) = gdP σ := rfl
    have eb : bdL (s_T σ) (7 - f_n (s_F σ)) (min 27 (s_T σ).length) = bdP σ := rfl
    rw [eg, eb] at fv
    rw [fv]
    have hbl : bdP σ < 1000 := by have := k5'.2.2.1; rw [eb] at this; omega
    cases q : gdP σ
    · have gm : ¬ ((0 : Int32) ≤ -1 - nI (bdP σ)) := by
        rw [fa_le, t0, toInt_subS (by rw [nI_toInt (by omega), show (-1 : Int32).toInt = -1 by decide +kernel]; omega), nI_toInt (by omega), show (-1 : Int32).toInt = -1 by decide +kernel]
        omega
      simp only [Bool.false_eq_true, if_false, gm, false_imp_iff, and_true]
      exact ⟨k1, trivial, k4⟩
    · obtain ⟨x1, x2, ⟨L, x3, x4⟩, x5⟩ := gdP_x q0 q hn
      have qg : gdL (s_T σ) (7 - f_n (s_F σ)) (min 27 (s_T σ).length) = true := by
        unfold gdP at q
        simp only [Bool.and_eq_true] at q
        exact q.1
      have k6' : if gdL (s_T σ) (7 - f_n (s_F σ)) (min 27 (s_T σ).length) then z.2.1 = 1 ∧ z.2.2.1 49 16 = nI ((min 27 (s_T σ).length + 1) / 4) ∧ lnM (s_T σ) (min 27 (s_T σ).length) ((min 27 (s_T σ).length + 1) / 4) z.2.2 ∧ f_n (s_F σ) + (min 27 (s_T σ).length + 1) / 4 ≤ 7 else z.2.1 = 0 ∨ bdL (s_T σ) (7 - f_n (s_F σ)) (min 27 (s_T σ).length) ≠ min 27 (s_T σ).length := k6
      rw [qg, if_pos rfl, x1, show ((s_T σ).length + 1) / 4 = L + 1 by omega] at k6'
      obtain ⟨-, y1, y2, y3⟩ := k6'
      obtain ⟨m1, m2⟩ := M_pp81 (F := s_F σ) k4.1.F hg y1 y2 y3
      have m3 := fsw_X12_people_81 (0, z.2.2)
      have g00 : (0 : Int32) ≤ 0 := by decide
      simp only [if_true, g00, true_imp_iff]
      rw [show ((s_T σ).length + 1) / 4 = L + 1 by omega]
      generalize (whl _ _ FU ((0, z.2.2) : Int32 × Mm) : Mm) = r at m2 m3 ⊢
      have r16 : r.1 49 16 = nI (L + 1) := by rw [m3.1 49 16 (by decide) (.inr (by decide))]; exact y1
      have gL : ¬ (nI (L + 1) ≤ 0) := by rw [fa_le, t0, nI_toInt (by omega)]; omega
      have f1 : v_X12_flag 1 = 1 := rfl
      rw [r16, if_neg gL]
      have r17 : (upI r 49 23 0).1 49 16 = nI (L + 1) := by rw [rI, if_neg (by omega)]; exact r16
      rw [r17, if_neg gL, f1]
      refine ⟨⟨k1, m1⟩, ?_, M_ppE (σ := setT σ []) k4 (by omega) m2 m3 rfl⟩
      rw [rI, if_neg (by omega)]; exact r17
theorem RgF_jn {T : List Nat} {F : FL} {L : Nat} (hg : RgF F) (hT : ∀ i, chT T i < 256) (hL : T.length = 4 * L + 3) (hn : f_n F + (L + 1) ≤ 7) (hs : ∀ j, j < T.length → stL T (7 - f_n F) j = true) : RgF (jnF T T.length F (L + 1)) := by
  have kw : ∀ i, f_n F ≤ i ∧ i < f_n F + (L + 1) → 1 ≤ (dgI T (4 * (i - f_n F))).toInt ∧ (dgI T (4 * (i - f_n F))).toInt ≤ 9 := by
    intro i hi
    have := hs (4 * (i - f_n F)) (by omega)
    rw [st0] at this
    simp only [Bool.and_eq_true, decide_eq_true_eq] at this
    have hc := hT (4 * (i - f_n F))
    unfold dgI
    rw [show (48 : Int32) = nI 48 from rfl, nI_sub (by omega), nI_toInt (by omega)]
    omega
  have kh : ∀ i, f_n F ≤ i ∧ i < f_n F + (L + 1) → -9 ≤ (sgV T (4 * (i - f_n F) + 1) T.length).toInt ∧ (sgV T (4 * (i - f_n F) + 1) T.length).toInt ≤ 9 := by
    intro i hi
    have h1 := hs (4 * (i - f_n F) + 1) (by omega)
    rw [st1] at h1
    have h2 := hs (4 * (i - f_n F) + 2) (by omega)
    rw [st2] at h2
    simp only [Bool.or_eq_true, decide_eq_true_eq] at h1 h2
    rw [sgV_eq (by omega) h1]
    have hc := hT (4 * (i - f_n F) + 2)
    have ed : dgI T (4 * (i - f_n F) + 1 + 1) = nI (chT T (4 * (i - f_n F) + 2) - 48) := by
      unfold dgI
      rw [show (48 : Int32) = nI 48 from rfl, nI_sub (by show 48 ≤ chT T (4 * (i - f_n F) + 2); omega)]
    rw [ed]
    have hneg : ∀ k, k ≤ 9 → (-9 ≤ (-nI k).toInt ∧ (-nI k).toInt ≤ 9) ∧ (-9 ≤ (nI k).toInt ∧ (nI k).toInt ≤ 9) := by decide +kernel
    have := hneg (chT T (4 * (i - f_n F) + 2) - 48) (by omega)
    by_cases y : chT T (4 * (i - f_n F) + 1) = 45
    · rw [if_pos y]; exact this.1
    · rw [if_neg y]; exact this.2
  refine ⟨hn, fun i hi => ⟨?_, ?_, (hg.2.1 i hi).2.2⟩, fun i hi => ?_, fun i h1 h2 => ?_, fun i h1 h2 => ?_⟩
  · show 0 ≤ (if f_n F ≤ i ∧ i < f_n F + (L + 1) then dgI T (4 * (i - f_n F)) else f_w F i).toInt ∧ (if f_n F ≤ i ∧ i < f_n F + (L + 1) then dgI T (4 * (i - f_n F)) else f_w F i).toInt ≤ 9
    by_cases y : f_n F ≤ i ∧ i < f_n F + (L + 1)
    · rw [if_pos y]; have := kw i y; omega
    · rw [if_neg y]; exact (hg.2.1 i hi).1
  · show -9 ≤ (if f_n F ≤ i ∧ i < f_n F + (L + 1) then sgV T (4 * (i - f_n F) + 1) T.length else f_h F i).toInt ∧ (if f_n F ≤ i ∧ i < f_n F + (L + 1) then sgV T (4 * (i - f_n F) + 1) T.length else f_h F i).toInt ≤ 9
    by_cases y : f_n F ≤ i ∧ i < f_n F + (L + 1)
    · rw [if_pos y]; exact kh i y
    · rw [if_neg y]; exact (hg.2.1 i hi).2.1
  · show 1 ≤ (if f_n F ≤ i ∧ i < f_n F + (L + 1) then dgI T (4 * (i - f_n F)) else f_w F i).toInt
    have hi' : i < f_n F + (L + 1) := hi
    by_cases y : f_n F ≤ i ∧ i < f_n F + (L + 1)
    · rw [if_pos y]; exact (kw i y).1
    · rw [if_neg y]; exact hg.2.2.1 i (by omega)
  · have h1' : f_n F + (L + 1) ≤ i := h1
    exact hg.2.2.2.1 i (by omega) h2
  · have h1' : f_n F + (L + 1) ≤ i := h1
    show (if f_n F ≤ i ∧ i < f_n F + (L + 1) then dgI T (4 * (i - f_n F)) else f_w F i) = 0 ∧ (if f_n F ≤ i ∧ i < f_n F + (L + 1) then sgV T (4 * (i - f_n F) + 1) T.length else f_h F i) = 0 ∧ _
    rw [if_neg (by omega), if_neg (by omega)]
    exact hg.2.2.2.2 i (by omega) h2
theorem OK_setT (ok : OK σ) : OK (setT σ []) := ⟨ok.1, ok.2.1, fun i => by simp [setT, s_T], ok.2.2.2⟩
theorem call_people (h : Sim σ R μ) : Call (p_X11_people μ) (p_X12_people (e_X11_people μ)) (v_X11_people μ) (v_X12_people (e_X11_people μ)) (e_X12_people (e_X11_people μ)) := by
  obtain ⟨ok, hc, hm, tc, tm⟩ := h
  have fC := fr_X11_people μ
  have hm1 : MSR σ R (e_X11_people μ) := ⟨hm.frC fC (by decide), tm.frC fC (by decide)⟩
  have tc1 := tc.fr fC (by decide)
  have fM := fs_X12_people (e_X11_people μ)
  obtain ⟨a1, a2, a3⟩ := C_people ok hc
  obtain ⟨b1, b2, b3, b4⟩ := M_people ok hm1
  refine ⟨a1, b1, a2.trans b2.symm, Both (σ' := ppS σ) ⟨ok, hc, hm, tc, tm⟩ ?_ a3 tc1 b3 b4 fM (by decide)⟩
  unfold ppS
  by_cases q0 : (s_T σ).length = 0
  · rw [if_pos q0]; exact OK_setT ok
  · rw [if_neg q0]
    cases q : gdP σ
    · exact OK_setT ok
    · rw [if_pos rfl]
      obtain ⟨x1, x2, ⟨L, x3, x4⟩, x5⟩ := gdP_x q0 q ok.g.1
      rw [show ((s_T σ).length + 1) / 4 = L + 1 by omega]
      refine ⟨RgF_jn ok.g ok.2.2.1 x3 x4 x5, ok.2.1, fun i => by simp [s_T], fun S hS => by simp [s_U] at hS, fun i S hi hS => by simp [s_K] at hS, fun x hx => ?_, ok.2.2.2.2.2.2⟩
      obtain ⟨z1, z2⟩ := ok.2.2.2.2.2.1 x hx
      refine ⟨?_, z2⟩
      have z1' : decide (0 ≤ x.1 ∧ x.1 < nI (f_n (s_F σ))) = true := z1
      show decide (0 ≤ x.1 ∧ x.1 < nI (f_n (s_F σ) + (L + 1))) = true
      simp only [decide_eq_true_eq, fa_lt, nI_toInt (show f_n (s_F σ) < 2 ^ 31 by omega)] at z1'
      simp only [decide_eq_true_eq, fa_lt, nI_toInt (show f_n (s_F σ) + (L + 1) < 2 ^ 31 by omega)]
      exact ⟨z1'.1, by omega⟩
end PP

/-! a morning -/
theorem VdA.le {T : List Nat} {a b : Nat} (h : VdA T b) (hab : a ≤ b) : VdA T a := fun i j hj g1 g2 => h i j (by omega) g1 g2
theorem act_d {T : List Nat} {k : Nat} (hv : VdA T (sA T (k + 1))) : isD T (sA T k + 1) (sA T (k + 1)) 0 9 = true := by
  have hc := act_c hv
  have es := sA_s T k
  have h := hv k (sA T k + 1) (by omega) (by omega) (by omega)
  unfold stA at h
  rw [if_neg (by omega), if_neg (by omega), if_neg (by omega)] at h
  unfold isD
  rw [decide_eq_true (show sA T k + 1 < sA T (k + 1) by omega), Bool.true_and]
  exact h
/-- d of k acts are done, and the next is refused -/
def NdA (r T : List Nat) (F : FL) (k d : Nat) : Prop := d ≤ k ∧ (∀ j, j < d → ¬ aV r T (fA r T F j) (sA T j) < 0) ∧ (d < k → aV r T (fA r T F d) (sA T d) < 0)
theorem NdA_uq {r T : List Nat} {F : FL} {k d d' : Nat} (h : NdA r T F k d) (h' : NdA r T F k d') : d = d' := by
  obtain ⟨a1, a2, a3⟩ := h
  obtain ⟨b1, b2, b3⟩ := h'
  rcases Nat.lt_trichotomy d d' with y | y | y
  · exact absurd (a3 (by omega)) (b2 d y)
  · exact y
  · exact absurd (b3 (by omega)) (a2 d' y)
def edA (k d : Nat) : Nat := if d < k then d + 1 else k
section MC
variable {r T : List Nat} {F : FL} {μ : Mm}
theorem C_mo45 {k : Nat} (hf : FlC 1 F μ) (hr : RuC 15 r μ) (hg : RgF F) (hx : TxC T μ) (hT : ∀ i, chT T i < 256) (hk : sA T k = T.length) (hv : VdA T T.length) : whP (fun s : Int32 × Int32 × Int32 × Int32 × Mm => bd_X11_morning_45 s.1 s.2.1 s.2.2.1 s.2.2.2.1 s.2.2.2.2) (fun s : Int32 × Int32 × Int32 × Int32 × Mm => sd_X11_morning_45 s.1 s.2.1 s.2.2.1 s.2.2.2.1 s.2.2.2.2) FU (0, 0, 0, 0, μ) ∧ (fun z : Int32 × Int32 × Mm => ∃ d, NdA r T F k d ∧ z.1 = nI d ∧ z.2.1 = (if d < k then 1 else 0) ∧ FlC 1 (fA r T F (edA k d)) z.2.2) (whl (fun s : Int32 × Int32 × Int32 × Int32 × Mm => bd_X11_morning_45 s.1 s.2.1 s.2.2.1 s.2.2.2.1 s.2.2.2.2) (fun s : Int32 × Int32 × Int32 × Int32 × Mm => (0, 0, s.2.2.2.2)) FU (0, 0, 0, 0, μ)) := by
  have hl := hx.1
  refine lpI (f := fun s : Int32 × Int32 × Int32 × Int32 × Mm => bd_X11_morning_45 s.1 s.2.1 s.2.2.1 s.2.2.2.1 s.2.2.2.2) (sd := fun s : Int32 × Int32 × Int32 × Int32 × Mm => sd_X11_morning_45 s.1 s.2.1 s.2.2.1 s.2.2.2.1 s.2.2.2.2) (dd := fun s : Int32 × Int32 × Int32 × Int32 × Mm => (0, 0, s.2.2.2.2)) (I := fun i s => (∃ j μ', s = (nI j, nI (sA T j), 0, nI i, μ') ∧ i ≤ T.length ∧ i ≤ sA T j ∧ (∀ j', j' < j → sA T j' < i) ∧ (∀ j', j' < j → ¬ aV r T (fA r T F j') (sA T j') < 0) ∧ FlC 1 (fA r T F j) μ' ∧ Fr [1, 17, 3, 4, 5, 6, 7] μ μ') ∨ (∃ d μ' x, s = (nI d, x, 1, nI i, μ') ∧ d < k ∧ NdA r T F k d ∧ FlC 1 (fA r T F (d + 1)) μ'))
    (R := fun z : Int32 × Int32 × Mm => ∃ d, NdA r T F k d ∧ z.1 = nI d ∧ z.2.1 = (if d < k then 1 else 0) ∧ FlC 1 (fA r T F (edA k d)) z.2.2) 81 (by omega) ?_ (s0 := (0, 0, 0, 0, μ)) (.inl ⟨0, μ, rfl, Nat.zero_le _, Nat.zero_le _, fun j hj => absurd hj (by omega), fun j hj => absurd hj (by omega), hf, Fr.rfl⟩)
  rintro i _ hi (⟨j, μ', rfl, hi2, hij, hjj, hnr, hf', hfr⟩ | ⟨d, μ', x, rfl, hdk, hd, hf'⟩)
  · have hx' : TxC T μ' := hx.fr hfr (by decide)
    have hr' : RuC 15 r μ' := hr.fr hfr (by decide)
    have hjk : j ≤ k := by
      rcases Nat.lt_or_ge k j with y | y
      · have := hjj k y; omega
      · exact y
    have hjs := sA_mono (T := T) hjk
    dsimp only
    unfold sd_X11_morning_45 bd_X11_morning_45
    rw [hx'.2.1]
    simp only [nI_leI (show T.length < 2 ^ 31 by omega) (show i < 2 ^ 31 by omega), nI_eq (show i < 2 ^ 31 by omega) (show sA T j < 2 ^ 31 by omega), if_true]
    rcases Nat.lt_or_ge i T.length with z | z
    · rw [if_neg (show ¬ T.length ≤ i by omega)]
      by_cases q : i = sA T j
      · have hlt : j < k := by
          rcases Nat.lt_or_ge j k with y | y
          · exact y
          · rw [show j = k by omega] at q; omega
        have hs1 := sA_mono (T := T) (k := j + 1) (j := k) hlt
        have hv1 : VdA T (sA T (j + 1)) := hv.le (by omega)
        obtain ⟨c1, c2, c3⟩ := C_act hf' hr' (fA_ok hg j).1 hx' hT (k := j) (by omega) hv1
        obtain ⟨a1, a2⟩ := C_at hx' hT (i := sA T j) (by omega)
        have el : nI (sA T j) + v_X9_actLength (nI (chT T (sA T j))) = nI (sA T (j + 1)) := by
          rw [actLen _ (hT _), nI_add]; rfl
        simp only [q, if_true]
        rw [c2, a2, el, nI_1]
        refine ⟨fun _ _ _ => ⟨a1, c1⟩, .inl ⟨_, rfl, by omega, ?_⟩⟩
        by_cases w : aV r T (fA r T F j) (sA T j) < 0
        · have w' : ¬ ((0 : Int32) ≤ aV r T (fA r T F j) (sA T j)) := by rw [fa_le]; rw [fa_lt] at w; omega
          rw [if_neg w', if_neg (show ¬ ((1 : Int32) = 0) by decide), Int32.add_zero]
          exact .inr ⟨j, _, _, rfl, hlt, ⟨hjk, hnr, fun _ => w⟩, c3⟩
        · have w' : (0 : Int32) ≤ aV r T (fA r T F j) (sA T j) := by rw [fa_le]; rw [fa_lt] at w; omega
          rw [if_pos w', if_pos rfl, nI_1]
          refine .inl ⟨j + 1, _, rfl, by omega, ?_, fun j' hj' => ?_, fun j' hj' => ?_, c3, hfr.call (fr_X11_act _ _) (by decide)⟩
          · have := sA_lt T j; omega
          · by_cases y : j' = j
            · rw [y]; omega
            · have := hjj j' (by omega); omega
          · by_cases y : j' = j
            · rw [y]; exact w
            · exact hnr j' (by omega)
      · simp only [q, if_false, false_imp_iff, implies_true, true_and]
        rw [nI_1]
        refine .inl ⟨_, rfl, by omega, .inl ⟨j, μ', rfl, by omega, by omega, fun j' hj' => ?_, hnr, hf', hfr⟩⟩
        have := hjj j' hj'; omega
    · rw [if_pos z]
      have ejk : j = k := by
        rcases Nat.lt_or_ge j k with y | y
        · have := sA_mono (T := T) (k := j + 1) (j := k) y
          have := sA_lt T j
          omega
        · omega
      subst ejk
      refine ⟨fun y => absurd z y, .inr ⟨_, rfl, j, ⟨Nat.le_refl _, hnr, fun y => absurd y (Nat.lt_irrefl _)⟩, rfl, by rw [if_neg (Nat.lt_irrefl _)], ?_⟩⟩
      unfold edA
      rw [if_neg (Nat.lt_irrefl _)]; exact hf'
  · dsimp only
    unfold sd_X11_morning_45 bd_X11_morning_45
    have o1 : ¬ ((1 : Int32) = 0) := by decide
    rw [if_neg o1]
    refine ⟨fun _ y => absurd y o1, .inr ⟨(nI d, 1, μ'), ?_, d, hd, rfl, by rw [if_pos hdk], ?_⟩⟩
    · by_cases y : μ'.1 25 1 ≤ nI i
      · rw [if_pos y]
      · rw [if_neg y]
    · unfold edA
      rw [if_pos hdk]; exact hf'
theorem M_mo64 {k : Nat} (hf : FlM 52 F μ) (hl : r.length ≤ 40) (hw : wfd r 0) (hr : RuM r μ) (hg : RgF F) (hT : ∀ i, chT T i < 256) (hk60 : k ≤ 60) (h29 : μ.1 49 29 = nI k) (hac : ∀ j, j < k → AcM T j μ) (hv : VdA T (sA T k)) : whP (fun s : Int32 × Mm => bd_X12_morning_64 s.1 s.2) (fun s : Int32 × Mm => sd_X12_morning_64 s.1 s.2) FU (0, μ) ∧ (fun z : Int32 × Mm => ∃ d, NdA r T F k d ∧ z.1 = nI d ∧ FlM 52 (fA r T F (edA k d)) z.2) (whl (fun s : Int32 × Mm => bd_X12_morning_64 s.1 s.2) (fun s : Int32 × Mm => (0, s.2)) FU (0, μ)) := by
  refine lpI (f := fun s : Int32 × Mm => bd_X12_morning_64 s.1 s.2) (sd := fun s : Int32 × Mm => sd_X12_morning_64 s.1 s.2) (dd := fun s : Int32 × Mm => (0, s.2)) (I := fun i s => ∃ μ', s = (nI i, μ') ∧ i ≤ k ∧ (∀ j', j' < i → ¬ aV r T (fA r T F j') (sA T j') < 0) ∧ FlM 52 (fA r T F i) μ' ∧ Fs [52, 59, 60, 62] μ μ')
    (R := fun z : Int32 × Mm => ∃ d, NdA r T F k d ∧ z.1 = nI d ∧ FlM 52 (fA r T F (edA k d)) z.2) k (by omega) ?_ (s0 := (0, μ)) ⟨μ, rfl, Nat.zero_le _, fun j hj => absurd hj (by omega), hf, Fs.rfl⟩
  rintro i _ hi ⟨μ', rfl, hi2, hnr, hf', hfr⟩
  dsimp only
  unfold sd_X12_morning_64 bd_X12_morning_64
  have k29 : μ'.1 49 29 = nI k := by rw [hfr.1 49 29 (by decide) (.inr (by decide))]; exact h29
  rw [k29]
  simp only [nI_leI (show k < 2 ^ 31 by omega) (show i < 2 ^ 31 by omega)]
  rcases Nat.lt_or_ge i k with z | z
  · rw [if_neg (show ¬ k ≤ i by omega)]
    have hac' : AcM T i μ' := (hac i z).same (hfr.1 63 i (by decide) (.inl (by decide))) (hfr.1 64 i (by decide) (.inl (by decide))) (hfr.1 65 i (by decide) (.inl (by decide)))
    have hs1 := sA_mono (T := T) (k := i + 1) (j := k) z
    have hv1 : VdA T (sA T (i + 1)) := hv.le (by omega)
    obtain ⟨c1, c2, c3⟩ := M_does hf' hl hw (hr.fs hfr (by decide)) (fA_ok hg i).1 hT hac' (by omega) (act_d hv1)
    refine ⟨fun _ => c1, ?_⟩
    by_cases w : aV r T (fA r T F i) (sA T i) < 0
    · rw [if_pos (c2.mpr w)]
      refine .inr ⟨_, rfl, i, ⟨hi2, hnr, fun _ => w⟩, rfl, ?_⟩
      unfold edA
      rw [if_pos z]; exact c3
    · rw [if_neg (fun y => w (c2.mp y)), nI_1]
      refine .inl ⟨_, rfl, z, _, rfl, z, fun j' hj' => ?_, c3, hfr.call (fs_X12_does _ _) (by decide)⟩
      by_cases y : j' = i
      · rw [y]; exact w
      · exact hnr j' (by omega)
  · have e : i = k := by omega
    subst e
    rw [if_pos (Nat.le_refl i)]
    refine ⟨fun y => absurd (Nat.le_refl i) y, .inr ⟨_, rfl, i, ⟨Nat.le_refl _, hnr, fun y => absurd y (Nat.lt_irrefl _)⟩, rfl, ?_⟩⟩
    unfold edA
    rw [if_neg (Nat.lt_irrefl _)]; exact hf'
end MC
section MD
variable {σ : ST} {R : List Int64} {μ : Mm}
def moV (d : Nat) : Int32 := if d = 0 then -1 else 0
def moS (σ : ST) (k d : Nat) : ST := setT (actS σ (fA (s_r σ) (s_T σ) (s_F σ) (edA k d)) (moV d)) []
def moR (σ : ST) (k d : Nat) : List Int64 := [(if d < k then 1 else 0), Int32.toInt64 (2000 + momA (fA (s_r σ) (s_T σ) (s_F σ) (edA k d)))]
theorem C_morning (ok : OK σ) (h : CSR σ R μ) : p_X11_morning μ ∧ ∃ b k, EnA (s_T σ) (min 60 (s_T σ).length) b k ∧ (((s_T σ).length ≤ 60 ∧ sA (s_T σ) k = (s_T σ).length ∧ ∃ d, NdA (s_r σ) (s_T σ) (s_F σ) k d ∧ v_X11_morning μ = nI d ∧ CSR (moS σ k d) (moR σ k d) (e_X11_morning μ)) ∨ (¬ ((s_T σ).length ≤ 60 ∧ sA (s_T σ) k = (s_T σ).length) ∧ v_X11_morning μ = -1 - nI b ∧ CSR (setT σ []) R (e_X11_morning μ))) := by
  have hg := ok.g
  have hT : ∀ i, chT (s_T σ) i < 256 := ok.2.2.1
  have hx := h.1.T
  have hl := hx.1
  obtain ⟨p1, b, k, hE, hv⟩ := C_badAct hx hT
  have hbe := hE.1
  have hsb := hE.2.1
  unfold p_X11_morning v_X11_morning e_X11_morning
  by_cases gd : (s_T σ).length ≤ 60 ∧ sA (s_T σ) k = (s_T σ).length
  · have em : min 60 (s_T σ).length = (s_T σ).length := by omega
    have eb : b = (s_T σ).length := by omega
    have hv' : v_X9_badActSign μ = -1 := by rw [hv, if_neg (by omega), if_pos gd]
    have hVd : VdA (s_T σ) (s_T σ).length := by rw [← eb]; exact hE.2.2.2.1
    rw [hv', if_pos rfl, if_pos rfl]
    simp only [forall_eq, true_imp_iff]
    obtain ⟨n1, n2⟩ := C_note h.1.F h.1.U
    have f0 := fr_X3_note 1 μ
    obtain ⟨c1, d, c2, c3, c4, c5⟩ := C_mo45 (h.1.F.fr f0 (by simp)) (h.1.r.fr f0 (by simp)) hg (hx.fr f0 (by simp)) hT gd.2 hVd
    have fa := fw_X11_morning_45 (0, 0, 0, 0, e_X3_note 1 μ)
    refine ⟨?_, b, k, hE, .inl ⟨gd.1, gd.2, d, c2, ?_⟩⟩
    all_goals generalize (whl _ _ FU ((0, 0, 0, 0, e_X3_note 1 μ) : Int32 × Int32 × Int32 × Int32 × Mm) : Int32 × Int32 × Mm) = z at c3 c4 c5 fa ⊢
    all_goals
      have hC := C_done (V := moV d) h.1 f0 n2 c5 fa (by decide)
      have hd60 : d ≤ 60 := by have := c2.1; have := sA_ge (s_T σ) k; omega
      have e0 : (if z.1 ≤ 0 then z.2.2 else e_X3_commit z.2.2) = e_X11_committed (moV d) z.2.2 := by
        unfold e_X11_committed moV
        rw [c3]
        by_cases y : d = 0
        · subst y
          rw [if_pos (by decide), if_pos rfl, if_pos (by decide)]
        · have y2 : ¬ (nI d ≤ 0) := by rw [fa_le, t0, nI_toInt (by omega)]; omega
          rw [if_neg y2, if_neg y, if_neg (by decide)]
      have eI : (if z.2.1 = 0 then (0 : Int64) else 1) = if d < k then 1 else 0 := by
        rw [c4]
        by_cases y : d < k
        · rw [if_pos y, if_pos y, if_neg (by decide)]
        · rw [if_neg y, if_neg y, if_pos rfl]
      rw [e0, eI]
      have h9 : CSR (actS σ (fA (s_r σ) (s_T σ) (s_F σ) (edA k d)) (moV d)) R (e_X11_committed (moV d) z.2.2) := ⟨hC.1, h.2.fr hC.2 (by decide)⟩
      generalize e_X11_committed (moV d) z.2.2 = μ9 at h9 ⊢
      have h10 : CSR (moS σ k d) R (e_X9_clear μ9) := ⟨C_clear h9.1, h9.2.fr (fr_X9_clear μ9) (by decide)⟩
      generalize e_X9_clear μ9 = μ10 at h10 ⊢
      have h11 := CSR_begin h10
      generalize e_X10_begin μ10 = μ11 at h11 ⊢
      obtain ⟨p15, h15⟩ := CSR_add h11 (by simp) (if d < k then 1 else 0)
      generalize e_X10_add (if d < k then 1 else 0) μ11 = μ15 at h15 ⊢
      obtain ⟨p16, v16⟩ := C_moment h15.1.F
      rw [v16]
      have em2 : momA (s_F (moS σ k d)) = momA (fA (s_r σ) (s_T σ) (s_F σ) (edA k d)) := rfl
      rw [em2]
      obtain ⟨p18, h18⟩ := CSR_add h15 (by simp) (Int32.toInt64 (2000 + momA (fA (s_r σ) (s_T σ) (s_F σ) (edA k d))))
    · exact ⟨p1, n1, c1, p15, p16, p18⟩
    · exact ⟨c3, h18⟩
  · have hb60 : b ≤ 60 := by omega
    have hv' : v_X9_badActSign μ = nI b := by
      rw [hv]
      by_cases y : b < min 60 (s_T σ).length
      · rw [if_pos y]
      · rw [if_neg y, if_neg gd, show b = min 60 (s_T σ).length by omega]
    have gn : ¬ (nI b = -1) := nI_nm1 (by omega)
    rw [hv', if_neg gn, if_neg gn]
    exact ⟨⟨p1, fun y => absurd y gn⟩, b, k, hE, .inr ⟨gd, rfl, C_clear h.1, h.2.fr (fr_X9_clear μ) (by decide)⟩⟩
theorem M_morning (ok : OK σ) (h : MSR σ R μ) : p_X12_morning μ ∧ ∃ b k, EnA (s_T σ) (min 60 (s_T σ).length) b k ∧ (((s_T σ).length ≤ 60 ∧ sA (s_T σ) k = (s_T σ).length ∧ ∃ d, NdA (s_r σ) (s_T σ) (s_F σ) k d ∧ v_X12_morning μ = nI d ∧ MSR (moS σ k d) (moR σ k d) (e_X12_morning μ)) ∨ (¬ ((s_T σ).length ≤ 60 ∧ sA (s_T σ) k = (s_T σ).length) ∧ v_X12_morning μ = -1 - nI b ∧ MSR (setT σ []) R (e_X12_morning μ))) := by
  have hg := ok.g
  have hT : ∀ i, chT (s_T σ) i < 256 := ok.2.2.1
  have n60 : nI 60 = 60 := rfl
  have h1 : MSR σ R (upI μ 49 0 0) := ⟨h.1.th 0, h.2.th 0⟩
  obtain ⟨b1, b2, b3⟩ := M_begins h1.1 (m := 60) (by omega)
  have t2 := h1.2.fs (fs_X12_begins 60 (upI μ 49 0 0)) (by decide)
  rw [n60] at b1 b2 b3
  unfold p_X12_morning v_X12_morning e_X12_morning
  simp only [forall_eq]
  rw [b1]
  generalize e_X12_begins 60 (upI μ 49 0 0) = μ2 at b2 b3 t2 ⊢
  have f3 : Fs [1029] μ2 (upI μ2 49 29 0) := Fs.rfl.upF (by simp)
  have h3 : MSR (setT σ []) R (upI μ2 49 29 0) := ⟨b3.fs f3 (by decide), t2.fs f3 (by decide)⟩
  have r3 : Rd (s_T σ) 0 (min 60 (s_T σ).length) (upI μ2 49 29 0) := b2.up (by decide) _
  have k3 : (upI μ2 49 29 0).1 49 29 = nI 0 := by rw [rI, if_pos ⟨rfl, rfl⟩]; rfl
  generalize upI μ2 49 29 0 = μ3 at h3 r3 k3 ⊢
  have hl := b2.1
  obtain ⟨k1, k2, k4, b, k, hE, k5, k6⟩ := M_mo19 h3 r3 hT (by omega) k3 (nI (s_T σ).length)
  generalize (whl _ _ FU ((nI (s_T σ).length, 1, μ3) : Int32 × Int32 × Mm) : Int32 × Int32 × Mm) = z at k2 k4 k5 k6 ⊢
  have fv := M_faultA hl rfl k5 hE (k6.elim (fun y => .inl ⟨y.1, y.2.1, y.2.2.1⟩) .inr)
  have hbe := hE.1
  have hsb := hE.2.1
  rw [k2, fv]
  by_cases gd : (s_T σ).length ≤ 60 ∧ sA (s_T σ) k = (s_T σ).length
  · have em : min 60 (s_T σ).length = (s_T σ).length := by omega
    have eb : b = (s_T σ).length := by omega
    have hk60 : k ≤ 60 := by have := sA_ge (s_T σ) k; omega
    have g00 : (0 : Int32) ≤ 0 := by decide
    rw [if_pos gd, if_pos g00, if_pos g00]
    simp only [g00, true_imp_iff]
    rcases k6 with ⟨y1, y2, y3, y4, y5⟩ | ⟨y1, y2⟩
    · obtain ⟨n1, n2⟩ := M_putsBy k4.1.F k4.1.U
      have f0 := fs_X12_putsBy z.2.2
      have h8F : FlM 52 (s_F σ) (e_X12_putsBy z.2.2) := k4.1.F.fs f0 (by simp)
      have h8r : RuM (s_r σ) (e_X12_putsBy z.2.2) := k4.1.r.fs f0 (by simp)
      have h829 : (e_X12_putsBy z.2.2).1 49 29 = nI k := by rw [f0.1 49 29 (by decide) (.inr (by decide))]; exact y4
      have h8a : ∀ j, j < k → AcM (s_T σ) j (e_X12_putsBy z.2.2) := fun j hj => (y5 j hj).same (f0.1 63 j (by decide) (.inl (by decide))) (f0.1 64 j (by decide) (.inl (by decide))) (f0.1 65 j (by decide) (.inl (by decide)))
      have hVd : VdA (s_T σ) (sA (s_T σ) k) := by rw [gd.2, ← eb]; exact hE.2.2.2.1
      obtain ⟨c1, d, c2, c3, c5⟩ := M_mo64 h8F ok.rl ok.rw h8r hg hT hk60 h829 h8a hVd
      have fa := fsw_X12_morning_64 (0, e_X12_putsBy z.2.2)
      refine ⟨?_, b, k, hE, .inl ⟨gd.1, gd.2, d, c2, ?_⟩⟩
      all_goals generalize e_X12_putsBy z.2.2 = μ8 at f0 n2 h8F h8r h829 c1 c3 c5 fa ⊢
      all_goals generalize (whl _ _ FU ((0, μ8) : Int32 × Mm) : Int32 × Mm) = y at c3 c5 fa ⊢
      all_goals
        have hd60 : d ≤ 60 := by have := c2.1; omega
        have o29 : y.2.1 49 29 = nI k := by rw [fa.1 49 29 (by decide) (.inr (by decide))]; exact h829
        have f11 : Fs [1001] y.2 (upI y.2 49 1 0) := Fs.rfl.upF (by simp)
        have t11 := ToM_0 y.2
        have F11 : FlM 52 (fA (s_r σ) (s_T σ) (s_F σ) (edA k d)) (upI y.2 49 1 0) := c5.fs f11 (by decide)
        have o11 : (upI y.2 49 1 0).1 49 29 = nI k := by rw [rI, if_neg (by omega)]; exact o29
        have g11 : Fs [50, 52, 59, 60, 62, 1001] μ8 (upI y.2 49 1 0) := (Fs.rfl.call fa (by decide)).call f11 (by decide)
        generalize upI y.2 49 1 0 = μ11 at f11 t11 F11 o11 g11 ⊢
        rw [o11, c3]
        simp only [nI_leI (show k < 2 ^ 31 by omega) (show d < 2 ^ 31 by omega)]
        have eI : Int32.toInt64 (v_X12_flag (if k ≤ d then 0 else 1)) = if d < k then 1 else 0 := by
          by_cases w : d < k
          · rw [if_neg (by omega), if_pos w]; rfl
          · rw [if_pos (by omega), if_neg w]; rfl
        rw [eI]
        obtain ⟨p15, t15⟩ := M_enters t11 (by simp) (if d < k then 1 else 0)
        have f15 := fs_X12_enters (if d < k then 1 else 0) μ11
        have F15 := F11.fs f15 (by decide)
        have g15 := g11.call f15 (by decide)
        generalize e_X12_enters (if d < k then 1 else 0) μ11 = μ15 at t15 F15 g15 ⊢
        obtain ⟨p16, v16⟩ := M_moment F15
        rw [v16]
        obtain ⟨p18, t18⟩ := M_enters t15 (by simp) (Int32.toInt64 (2000 + momA (fA (s_r σ) (s_T σ) (s_F σ) (edA k d))))
        have f18 := fs_X12_enters (Int32.toInt64 (2000 + momA (fA (s_r σ) (s_T σ) (s_F σ) (edA k d)))) μ15
        have F18 := F15.fs f18 (by decide)
        have g18 := g15.call f18 (by decide)
        generalize e_X12_enters (Int32.toInt64 (2000 + momA (fA (s_r σ) (s_T σ) (s_F σ) (edA k d)))) μ15 = μ18 at t18 F18 g18 ⊢
        have u18 := n2.fs g18 (by decide)
        obtain ⟨q1, q2, q3⟩ := M_adds u18 (nI d)
      · exact ⟨k1, n1, c1, p15, p16, p18, fun _ => q1⟩
      · have gall : Fs [50, 52, 59, 60, 61, 62, 1001] z.2.2 μ18 := (Fs.rfl.call f0 (by decide)).call g18 (by decide)
        have hn : f_n (fA (s_r σ) (s_T σ) (s_F σ) (edA k d)) = f_n (s_F σ) := (fA_ok hg _).2
        by_cases w : d = 0
        · have w0 : nI d ≤ 0 := by rw [w]; decide
          rw [if_pos w0, if_pos w0]
          refine ⟨by rw [w]; rfl, ⟨F18, k4.1.r.fs gall (by decide), k4.1.T.fs gall (by decide), ?_, ?_, k4.1.S.fs gall (by decide), k4.1.H.fs gall (by decide)⟩, t18⟩
          · have eu : s_U (moS σ k d) = s_U σ := by
              show undV σ (moV d) = s_U σ
              unfold undV moV
              rw [if_pos w, if_pos (by decide)]
            rw [eu]; exact u18.un
          · show KeM (s_K σ) (f_n (fA (s_r σ) (s_T σ) (s_F σ) (edA k d))) μ18
            rw [hn]
            exact k4.1.K.fs (S := [50, 52, 59, 60, 61, 62, 1001]) gall (by decide)
        · have w0 : ¬ (nI d ≤ 0) := by rw [fa_le, t0, nI_toInt (by omega)]; omega
          rw [if_neg w0, if_neg w0, q2]
          have fAd := fs_X12_adds (nI d) μ18
          have gall2 := (Fs.rfl (S := [50, 52, 59, 60, 61, 62, 1001, 1023]).call gall (by decide)).call fAd (by decide)
          refine ⟨rfl, ⟨F18.fs fAd (by decide), k4.1.r.fs gall2 (by decide), k4.1.T.fs gall2 (by decide), ?_, ?_, k4.1.S.fs gall2 (by decide), k4.1.H.fs gall2 (by decide)⟩, t18.fs fAd (by decide)⟩
          · have eu : s_U (moS σ k d) = (rowF (s_F σ) :: s_U σ).take 15 := by
              show undV σ (moV d) = _
              unfold undV moV
              rw [if_neg w, if_neg (by decide)]
            rw [eu]; exact q3
          · show KeM (s_K σ) (f_n (fA (s_r σ) (s_T σ) (s_F σ) (edA k d))) _
            rw [hn]
            exact k4.1.K.fs gall2 (by decide)
    · exact absurd (by omega) y2
  · have gm : ¬ ((0 : Int32) ≤ -1 - nI b) := by
      rw [fa_le, t0, toInt_subS (by rw [nI_toInt (by omega), show (-1 : Int32).toInt = -1 by decide +kernel]; omega), nI_toInt (by omega), show (-1 : Int32).toInt = -1 by decide +kernel]
      omega
    rw [if_neg gd, if_neg gm, if_neg gm]
    exact ⟨⟨k1, fun y => absurd y gm⟩, b, k, hE, .inr ⟨gd, rfl, k4⟩⟩
theorem call_morning (h : Sim σ R μ) : Call (p_X11_morning μ) (p_X12_morning (e_X11_morning μ)) (v_X11_morning μ) (v_X12_morning (e_X11_morning μ)) (e_X12_morning (e_X11_morning μ)) := by
  obtain ⟨ok, hc, hm, tc, tm⟩ := h
  have fC := fr_X11_morning μ
  have hm1 : MSR σ R (e_X11_morning μ) := ⟨hm.frC fC (by decide), tm.frC fC (by decide)⟩
  have fM := fs_X12_morning (e_X11_morning μ)
  obtain ⟨a1, b, k, hE, a2⟩ := C_morning ok ⟨hc, tc⟩
  obtain ⟨b1, b', k', hE', b2⟩ := M_morning ok hm1
  obtain ⟨e1, e2⟩ := EnA_uq hE' hE
  subst e1 e2
  refine ⟨a1, b1, ?_⟩
  rcases a2 with ⟨g1, g2, d, n1, v1, s1⟩ | ⟨g1, v1, s1⟩
  · rcases b2 with ⟨g3, g4, d', n2, v2, s2⟩ | ⟨g3, v2, s2⟩
    · have ed := NdA_uq n2 n1
      subst ed
      refine ⟨v1.trans v2.symm, Both (σ' := moS σ k' d') ⟨ok, hc, hm, tc, tm⟩ ?_ s1.1 s1.2 s2.1 s2.2 fM (by decide)⟩
      exact OK_setT (OK_act ok (fA_ok ok.g _).1 (fA_ok ok.g _).2 _)
    · exact absurd ⟨g1, g2⟩ g3
  · rcases b2 with ⟨g3, g4, d', n2, v2, s2⟩ | ⟨g3, v2, s2⟩
    · exact absurd ⟨g3, g4⟩ g1
    · exact ⟨v1.trans v2.symm, Both (σ' := setT σ []) ⟨ok, hc, hm, tc, tm⟩ (OK_setT ok) s1.1 s1.2 s2.1 s2.2 fM (by decide)⟩
end MD

/-! bounds; tips, spares, years -/
theorem sm_rg {g : Nat → Int32} {B : Nat} : ∀ {n : Nat}, n * B < 2147483648 → (∀ i, i < n → -(B : Int) ≤ (g i).toInt ∧ (g i).toInt ≤ B) → -((n * B : Nat) : Int) ≤ (sm g n).toInt ∧ (sm g n).toInt ≤ ((n * B : Nat) : Int)
  | 0, _, _ => by
    show -((0 * B : Nat) : Int) ≤ (0 : Int32).toInt ∧ (0 : Int32).toInt ≤ ((0 * B : Nat) : Int)
    rw [t0, Nat.zero_mul]; omega
  | n + 1, hb, h => by
    rw [Nat.succ_mul] at hb ⊢
    have ih := sm_rg (g := g) (B := B) (n := n) (by omega) (fun i hi => h i (by omega))
    have hn := h n (by omega)
    show -((n * B + B : Nat) : Int) ≤ (sm g n + g n).toInt ∧ (sm g n + g n).toInt ≤ ((n * B + B : Nat) : Int)
    generalize n * B = m at *
    rw [toInt_addS (by omega)]
    omega
theorem mul_rg {a b : Int} {A B : Nat} (ha : 0 ≤ a ∧ a ≤ A) (hb : -(B : Int) ≤ b ∧ b ≤ B) : -((A * B : Nat) : Int) ≤ a * b ∧ a * b ≤ ((A * B : Nat) : Int) := by
  have h1 : a * b ≤ a * B := Int.mul_le_mul_of_nonneg_left hb.2 ha.1
  have h2 : a * B ≤ A * B := Int.mul_le_mul_of_nonneg_right ha.2 (by omega)
  have h3 : a * -(B : Int) ≤ a * b := Int.mul_le_mul_of_nonneg_left hb.1 ha.1
  rw [Int.mul_neg] at h3
  have h4 : ((A * B : Nat) : Int) = (A : Int) * B := by simp
  rw [h4]
  omega
theorem ldF_rg {F : FL} (h : RgF F) {i : Nat} (hi : i < 7) : 0 ≤ (ldF F i).toInt ∧ (ldF F i).toInt ≤ 18 ∧ (ldF F i).toInt = (f_w F i).toInt + (f_k F i).toInt := by
  obtain ⟨h1, h2, h3, h4⟩ := h.2.1 i hi
  unfold ldF
  rw [toInt_addS (by omega)]
  omega
theorem ldp_rg {F : FL} (h : RgF F) {i : Nat} (hi : i < 7) : -162 ≤ (ldF F i * f_p F i).toInt ∧ (ldF F i * f_p F i).toInt ≤ 162 ∧ (ldF F i * f_p F i).toInt = (ldF F i).toInt * (f_p F i).toInt := by
  obtain ⟨a1, a2, -⟩ := ldF_rg h hi
  have hp := (h.2.1 i hi).2.2.1
  have := mul_rg (A := 18) (B := 9) (a := (ldF F i).toInt) (b := (f_p F i).toInt) (by omega) (by omega)
  rw [toInt_mulS (by omega)]
  omega
theorem ldh_rg {F : FL} (h : RgF F) {i : Nat} (hi : i < 7) : -162 ≤ (ldF F i * f_h F i).toInt ∧ (ldF F i * f_h F i).toInt ≤ 162 ∧ (ldF F i * f_h F i).toInt = (ldF F i).toInt * (f_h F i).toInt := by
  obtain ⟨a1, a2, -⟩ := ldF_rg h hi
  have hp := (h.2.1 i hi).2.1
  have := mul_rg (A := 18) (B := 9) (a := (ldF F i).toInt) (b := (f_h F i).toInt) (by omega) (by omega)
  rw [toInt_mulS (by omega)]
  omega
theorem momA_rg {F : FL} (h : RgF F) : -1134 ≤ (momA F).toInt ∧ (momA F).toInt ≤ 1134 := by
  have hn := h.1
  have := sm_rg (g := fun i => if bt (f_o F) i then 0 else ldF F i * f_p F i) (B := 162) (n := f_n F) (by omega) (fun i hi => by
    have := ldp_rg h (show i < 7 by omega)
    by_cases q : bt (f_o F) i = true
    · simp only [q, if_true, t0]; omega
    · simp only [q, if_false, Bool.false_eq_true]; omega)
  unfold momA
  omega
section MO
variable {σ : ST} {F : FL} {R : List Int64} {μ : Mm}
def mosA (F : FL) (s : Int32) : Int32 := sm (fun i => if bt (f_o F) i then 0 else if f_p F i * s ≤ 0 then 0 else ldF F i * f_p F i * s) (f_n F)
theorem C_mos {b : Nat} (h : FlC b F μ) (s : Int32) : p_X1_momentOnSide b s μ ∧ v_X1_momentOnSide b s μ = mosA F s := by
  have hn := h.1
  refine lpF (f := fun s : Int32 × Int32 × Int32 => bd_X1_momentOnSide_4 b μ s.1 s.2.1 s.2.2) (sd := fun s : Int32 × Int32 × Int32 => sd_X1_momentOnSide_4 b μ s.1 s.2.1 s.2.2) (dd := fun _ : Int32 × Int32 × Int32 => 0)
    (fun i => (s, sm (fun i => if bt (f_o F) i then 0 else if f_p F i * s ≤ 0 then 0 else ldF F i * f_p F i * s) i, nI i)) (f_n F) (r := mosA F s) (by omega) (fun i hi => ⟨?_, ?_⟩) ⟨?_, ?_⟩
  · intro _ _; exact ⟨vp_in_nI (by omega) (by omega), fun _ => ⟨(C_load h hi).1, vp_in_nI (by omega) (by omega)⟩⟩
  · show bd_X1_momentOnSide_4 b μ _ _ (nI i) = _
    unfold bd_X1_momentOnSide_4
    rw [h.sz, if_neg (nI_ge hi (by omega)), nI_1, nI_clamp (by omega), C_isOff h (by omega), (C_load h hi).2, h.p (by omega)]
    simp only [sm]
    cases bt (f_o F) i <;> by_cases q : f_p F i * s ≤ 0 <;> simp [q]
  · intro z; exact absurd (by show μ.1 b 0 ≤ nI (f_n F); rw [h.sz]; exact nI_le (Nat.le_refl _) (by omega)) z
  · show bd_X1_momentOnSide_4 b μ _ _ (nI (f_n F)) = _
    unfold bd_X1_momentOnSide_4
    rw [h.sz, if_pos (nI_le (Nat.le_refl _) (by omega))]
    rfl
def eaB (F : FL) : Int32 := mkb (fun i => decide (¬ f_p F i ≤ 0)) (f_n F)
def weB (F : FL) : Int32 := mkb (fun i => decide (¬ 0 ≤ f_p F i)) (f_n F)
theorem M_tipl (h : FlM 52 F μ) : whP (fun s : Int32 × Int32 × Int32 => bd_X12_tips_11 μ s.1 s.2.1 s.2.2) (fun s : Int32 × Int32 × Int32 => sd_X12_tips_11 μ s.1 s.2.1 s.2.2) FU (0, 0, 0) ∧ whl (fun s : Int32 × Int32 × Int32 => bd_X12_tips_11 μ s.1 s.2.1 s.2.2) (fun _ : Int32 × Int32 × Int32 => (0, 0)) FU (0, 0, 0) = (eaB F, weB F) := by
  have hn := h.1
  refine lpF (f := fun s : Int32 × Int32 × Int32 => bd_X12_tips_11 μ s.1 s.2.1 s.2.2) (sd := fun s : Int32 × Int32 × Int32 => sd_X12_tips_11 μ s.1 s.2.1 s.2.2) (dd := fun _ : Int32 × Int32 × Int32 => (0, 0))
    (fun i => (mkb (fun i => decide (¬ f_p F i ≤ 0)) i, mkb (fun i => decide (¬ 0 ≤ f_p F i)) i, nI i)) (f_n F) (r := (eaB F, weB F)) (by omega) (fun i hi => ⟨?_, ?_⟩) ⟨?_, ?_⟩
  · intro _; exact ⟨in7 (by omega), in7 (by omega)⟩
  · show bd_X12_tips_11 μ _ _ (nI i) = _
    unfold bd_X12_tips_11
    rw [h.sz, if_neg (nI_ge hi (by omega)), nI_1, cl7 (by omega), h.p (by omega)]
    simp only [mkb]
    by_cases q : f_p F i ≤ 0 <;> by_cases q2 : 0 ≤ f_p F i <;> simp [q, q2]
  · intro z; exact absurd (by show μ.1 49 3 ≤ nI (f_n F); rw [h.sz]; exact nI_le (Nat.le_refl _) (by omega)) z
  · show bd_X12_tips_11 μ _ _ (nI (f_n F)) = _
    unfold bd_X12_tips_11
    rw [h.sz, if_pos (nI_le (Nat.le_refl _) (by omega))]
    rfl
theorem sm_neg {g f : Nat → Int32} : ∀ {n : Nat}, (∀ i, i < n → f i = -g i) → sm f n = -sm g n
  | 0, _ => by show (0 : Int32) = -0; decide
  | n + 1, h => by
    show sm f n + f n = -(sm g n + g n)
    rw [sm_neg (fun i hi => h i (by omega)), h n (by omega), Int32.neg_add, Int32.sub_eq_add_neg]
theorem mos_e (hg : RgF F) : mosA F 1 = momO F (eaB F) := by
  have hn := hg.1
  unfold mosA momO
  refine sm_congr (fun i hi => ?_)
  unfold eaB
  rw [bt_mkb (by omega) (by omega), Int32.mul_one, Int32.mul_one, decide_eq_true hi]
  by_cases q : f_p F i ≤ 0 <;> cases bt (f_o F) i <;> simp [q]
theorem mos_w (hg : RgF F) : mosA F (-1) = -momO F (weB F) := by
  have hn := hg.1
  unfold mosA momO
  refine sm_neg (fun i hi => ?_)
  unfold weB
  rw [bt_mkb (by omega) (by omega), Int32.mul_neg, Int32.mul_one, Int32.mul_neg, Int32.mul_one, decide_eq_true hi]
  have hp := (hg.2.1 i (by omega)).2.2.1
  have q2 : (-f_p F i ≤ 0) ↔ 0 ≤ f_p F i := by
    rw [fa_le, fa_le, toInt_negS (by omega) (by omega), t0]; omega
  by_cases q : 0 ≤ f_p F i <;> cases bt (f_o F) i <;> simp [q, q2]
theorem lod_sta (hg : RgF F) (p : Int32) : lodI F (staA F p) = lodO F (staA F p) := by
  have hn := hg.1
  unfold lodI lodO
  refine sm_congr (fun i hi => ?_)
  unfold staA
  rw [bt_mkb (by omega) (by omega)]
  cases bt (f_o F) i <;> simp
def tiT (F : FL) : List Int64 := [(mosA F 1).toInt64, (mosA F (-1)).toInt64, (lodO F (staA F 0)).toInt64]
theorem call_tips (h : Sim σ R μ) : Call (p_X11_tips μ) (p_X12_tips (e_X11_tips μ)) (v_X11_tips μ) (v_X12_tips (e_X11_tips μ)) (e_X12_tips (e_X11_tips μ)) := by
  have fC := fr_X11_tips μ
  have m := h.m1 fC (by decide)
  refine Two (v := dirA (momA (s_F σ))) (R' := tiT (s_F σ)) h fC (fs_X12_tips _) ?_ ?_ (by decide) (by decide)
  · have hc := h.2.1
    unfold p_X11_tips v_X11_tips e_X11_tips
    simp only [forall_eq]
    have t1 := ToC_0 μ
    have hc1 := hc.fr (fr_X10_begin μ) (by decide)
    generalize e_X10_begin μ = μ1 at t1 hc1 ⊢
    obtain ⟨p1, v1⟩ := C_mos hc1.F 1
    rw [v1]
    obtain ⟨q2, t2⟩ := C_add t1 (by simp) (mosA (s_F σ) 1).toInt64
    have hc2 := hc1.fr (fr_X10_add (mosA (s_F σ) 1).toInt64 μ1) (by decide)
    generalize e_X10_add (mosA (s_F σ) 1).toInt64 μ1 = μ2 at t2 hc2 ⊢
    obtain ⟨p3, v3⟩ := C_mos hc2.F (-1)
    rw [v3]
    obtain ⟨q4, t4⟩ := C_add t2 (by simp) (mosA (s_F σ) (-1)).toInt64
    have hc4 := hc2.fr (fr_X10_add (mosA (s_F σ) (-1)).toInt64 μ2) (by decide)
    generalize e_X10_add (mosA (s_F σ) (-1)).toInt64 μ2 = μ4 at t4 hc4 ⊢
    obtain ⟨p5, v5⟩ := C_standingOn hc4.F 0
    rw [v5]
    obtain ⟨p6, v6⟩ := C_loadOf hc4.F (staA (s_F σ) 0)
    rw [v6, lod_sta h.1.g]
    obtain ⟨q7, t7⟩ := C_add t4 (by simp) (lodO (s_F σ) (staA (s_F σ) 0)).toInt64
    have hc7 := hc4.fr (fr_X10_add (lodO (s_F σ) (staA (s_F σ) 0)).toInt64 μ4) (by decide)
    generalize e_X10_add (lodO (s_F σ) (staA (s_F σ) 0)).toInt64 μ4 = μ7 at t7 hc7 ⊢
    obtain ⟨p8, v8⟩ := C_moment hc7.F
    rw [v8, dir_C]
    exact ⟨⟨p1, q2, p3, q4, p5, p6, q7, p8⟩, rfl, t7⟩
  · generalize e_X11_tips μ = μa at m ⊢
    have hm0 := m.1.th 0
    unfold p_X12_tips v_X12_tips e_X12_tips
    simp only [forall_eq]
    generalize upI μa 49 0 0 = μ0 at hm0 ⊢
    obtain ⟨k1, k2⟩ := M_tipl hm0.F
    rw [k2]
    dsimp only
    have t1 := ToM_0 μ0
    have hm1 := hm0.fs (L := [1001]) (Fs.upF (j := 1) (v := 0) Fs.rfl (by simp)) (by decide)
    generalize upI μ0 49 1 0 = μ1 at t1 hm1 ⊢
    obtain ⟨p1, v1⟩ := M_momentOf hm1.F (eaB (s_F σ))
    rw [v1, ← mos_e h.1.g]
    obtain ⟨q2, t2⟩ := M_enters t1 (by simp) (mosA (s_F σ) 1).toInt64
    have hm2 := hm1.fs (fs_X12_enters (mosA (s_F σ) 1).toInt64 μ1) (by decide)
    generalize e_X12_enters (mosA (s_F σ) 1).toInt64 μ1 = μ2 at t2 hm2 ⊢
    obtain ⟨p3, v3⟩ := M_momentOf hm2.F (weB (s_F σ))
    rw [v3, ← mos_w h.1.g]
    obtain ⟨q4, t4⟩ := M_enters t2 (by simp) (mosA (s_F σ) (-1)).toInt64
    have hm4 := hm2.fs (fs_X12_enters (mosA (s_F σ) (-1)).toInt64 μ2) (by decide)
    generalize e_X12_enters (mosA (s_F σ) (-1)).toInt64 μ2 = μ4 at t4 hm4 ⊢
    obtain ⟨p5, v5⟩ := M_standingOn hm4.F 0
    rw [v5]
    obtain ⟨p6, v6⟩ := M_loadOf hm4.F (staA (s_F σ) 0)
    rw [v6]
    obtain ⟨q7, t7⟩ := M_enters t4 (by simp) (lodO (s_F σ) (staA (s_F σ) 0)).toInt64
    have hm7 := hm4.fs (fs_X12_enters (lodO (s_F σ) (staA (s_F σ) 0)).toInt64 μ4) (by decide)
    generalize e_X12_enters (lodO (s_F σ) (staA (s_F σ) 0)).toInt64 μ4 = μ7 at t7 hm7 ⊢
    obtain ⟨p8, v8⟩ := M_moment hm7.F
    rw [v8, dir_M]
    exact ⟨⟨k1, p1, q2, p3, q4, p5, p6, q7, p8⟩, rfl, t7⟩
end MO

/-! walks -/
section WD
variable {σ : ST} {R : List Int64} {μ : Mm}
theorem M_wk96 (ok : OK σ) {x : Int32} {L : Nat} {m : Int32} (hm : MSR σ [] μ) (hr : ∀ a, a ≤ f_n (s_F σ) → Rows (s_F σ) x a μ) (h0 : WI (rmN (s_F σ) x) (ldN (s_F σ)) 0 L m) (f : Int32) : whP (fun s : Int32 × Int32 × Int32 × Int32 × Int32 × Mm => bd_X12_walks_96 s.1 s.2.1 s.2.2.1 s.2.2.2.1 s.2.2.2.2.1 s.2.2.2.2.2) (fun s : Int32 × Int32 × Int32 × Int32 × Int32 × Mm => sd_X12_walks_96 s.1 s.2.1 s.2.2.1 s.2.2.2.1 s.2.2.2.2.1 s.2.2.2.2.2) FU (x, m, f, nI L, 0, μ) ∧ (fun z : Int32 × Mm => z.1 = f ∧ MSR σ (rows (wF (rmN (s_F σ) x) (ldN (s_F σ)) L m) (f_n (s_F σ))) z.2) (whl (fun s : Int32 × Int32 × Int32 × Int32 × Int32 × Mm => bd_X12_walks_96 s.1 s.2.1 s.2.2.1 s.2.2.2.1 s.2.2.2.2.1 s.2.2.2.2.2) (fun s : Int32 × Int32 × Int32 × Int32 × Int32 × Mm => (0, s.2.2.2.2.2)) FU (x, m, f, nI L, 0, μ)) := by
  have hn := ok.g.1
  have hw := wS_ok h0 hn (fun i hi => ⟨(ldN_I ok.g hi).2.2, (ldN_I ok.g hi).2.1, rmN_le ok.g i⟩)
  refine lpI (f := fun s : Int32 × Int32 × Int32 × Int32 × Int32 × Mm => bd_X12_walks_96 s.1 s.2.1 s.2.2.1 s.2.2.2.1 s.2.2.2.2.1 s.2.2.2.2.2) (sd := fun s : Int32 × Int32 × Int32 × Int32 × Int32 × Mm => sd_X12_walks_96 s.1 s.2.1 s.2.2.1 s.2.2.2.1 s.2.2.2.2.1 s.2.2.2.2.2) (dd := fun s : Int32 × Int32 × Int32 × Int32 × Int32 × Mm => (0, s.2.2.2.2.2)) (I := fun i z => i ≤ f_n (s_F σ) ∧ ∃ μ', z = (x, (wS (rmN (s_F σ) x) (ldN (s_F σ)) L m i).2, f, nI (wS (rmN (s_F σ) x) (ldN (s_F σ)) L m i).1, nI i, μ') ∧ MSR σ (rows (wF (rmN (s_F σ) x) (ldN (s_F σ)) L m) i) μ' ∧ ∀ a, a ≤ f_n (s_F σ) → Rows (s_F σ) x a μ')
    (R := fun z : Int32 × Mm => z.1 = f ∧ MSR σ (rows (wF (rmN (s_F σ) x) (ldN (s_F σ)) L m) (f_n (s_F σ))) z.2) (f_n (s_F σ)) (by omega) ?_ (s0 := (x, m, f, nI L, 0, μ)) ⟨by omega, μ, rfl, hm, hr⟩
  rintro i _ hi ⟨hi2, μ', rfl, hm', hr'⟩
  dsimp only
  unfold sd_X12_walks_96 bd_X12_walks_96
  rw [hm'.1.F.sz]
  simp only [nI_leI (show f_n (s_F σ) < 2 ^ 31 by omega) (show i < 2 ^ 31 by omega), forall_eq]
  rcases Nat.lt_or_ge i (f_n (s_F σ)) with z | z
  · have hwi := hw i hi2
    have hrm := rmN_le ok.g (x := x) i
    obtain ⟨s1, s2, -⟩ := WI_step hwi (by omega) (ldN_I ok.g z).2.2 (ldN_I ok.g z).2.1 hrm
    obtain ⟨r1, r2⟩ := M_room ok hm' (x := x) z
    have hl126 := hwi.2.1
    have ef : (if nI (rmN (s_F σ) x i) < nI (wS (rmN (s_F σ) x) (ldN (s_F σ)) L m i).1 then nI (rmN (s_F σ) x i) else nI (wS (rmN (s_F σ) x) (ldN (s_F σ)) L m i).1) = nI (min (wS (rmN (s_F σ) x) (ldN (s_F σ)) L m i).1 (rmN (s_F σ) x i)) := by
      simp only [nI_ltI (show rmN (s_F σ) x i < 2 ^ 31 by omega) (show (wS (rmN (s_F σ) x) (ldN (s_F σ)) L m i).1 < 2 ^ 31 by omega)]
      by_cases y : rmN (s_F σ) x i < (wS (rmN (s_F σ) x) (ldN (s_F σ)) L m i).1
      · rw [if_pos y]; congr 1; omega
      · rw [if_neg y]; congr 1; omega
    obtain ⟨w1, w2⟩ := M_wk119 ok hm' z hwi (hr' (i + 1) (by omega)) f
    rw [if_neg (show ¬ f_n (s_F σ) ≤ i by omega), r2, ef, w2]
    dsimp only
    have ew : (nI (fai (rmN (s_F σ) x) (ldN (s_F σ)) (wS (rmN (s_F σ) x) (ldN (s_F σ)) L m i).2 i (wS (rmN (s_F σ) x) (ldN (s_F σ)) L m i).1)).toInt64 = wF (rmN (s_F σ) x) (ldN (s_F σ)) L m i := rfl
    rw [ew]
    obtain ⟨p1, c1⟩ := MSR_add hm' (by rw [rows_len]; omega) (wF (rmN (s_F σ) x) (ldN (s_F σ)) L m i)
    have f1 := fs_X12_enters (wF (rmN (s_F σ) x) (ldN (s_F σ)) L m i) μ'
    have hr2 : ∀ a, a ≤ f_n (s_F σ) → Rows (s_F σ) x a (e_X12_enters (wF (rmN (s_F σ) x) (ldN (s_F σ)) L m i) μ') := fun a ha => (hr' a ha).fs f1 (by decide)
    generalize e_X12_enters (wF (rmN (s_F σ) x) (ldN (s_F σ)) L m i) μ' = μ4 at c1 hr2 ⊢
    obtain ⟨l1, l2⟩ := M_ld ok c1 z
    rw [l2, nI_sub s1, nI_1]
    exact ⟨fun _ => ⟨r1, w1, p1, l1⟩, .inl ⟨_, rfl, z, z, _, rfl, c1, hr2⟩⟩
  · have : i = f_n (s_F σ) := by omega
    subst this
    rw [if_pos (Nat.le_refl _)]
    exact ⟨fun y => absurd (Nat.le_refl _) y, .inr ⟨_, rfl, rfl, hm'⟩⟩
def wkQ (σ : ST) (x : Int32) : Option Nat := ff (qW (rmN (s_F σ) x) (ldN (s_F σ)) (momA (s_F σ))) 0 127
def wkT (σ : ST) (x : Int32) (R : List Int64) : List Int64 := match wkQ σ x with
  | none => R
  | some L => rows (wF (rmN (s_F σ) x) (ldN (s_F σ)) L (momA (s_F σ))) (f_n (s_F σ))
theorem call_walks (h : Sim σ R μ) (x : Int32) : Call (p_X11_walks x μ) (p_X12_walks x (e_X11_walks x μ)) (v_X11_walks x μ) (v_X12_walks x (e_X11_walks x μ)) (e_X12_walks x (e_X11_walks x μ)) := by
  have fC := fr_X11_walks x μ
  have m := h.m1 fC (by decide)
  have ok := h.1
  have hn := ok.g.1
  have h7 := pow7 hn
  have hmo := momA_rg ok.g
  have hall : (nI (2 ^ f_n (s_F σ) - 1)).toInt64.toInt = ((2 ^ f_n (s_F σ) - 1 : Nat) : Int) := by rw [Int32.toInt_toInt64, nI_toInt (by omega)]
  by_cases q : x &&& (preA (s_F σ) ^^^ (-1)) = 0
  · refine Two (v := fres (wkQ σ x)) (R' := wkT σ x R) h fC (fs_X12_walks _ _) ?_ ?_ (by decide) (by decide)
    · unfold p_X11_walks v_X11_walks e_X11_walks
      simp only [forall_eq]
      rw [C_present h.2.1.F, if_pos q, if_pos q]
      obtain ⟨a1, a2, a3⟩ := C_setOut ok ⟨h.2.1, h.2.2.2.1⟩ x
      have hbit : ∀ i, i < 7 → bt x i = true → i < f_n (s_F σ) := fun i hi hb => by
        have h1 : bt (x &&& (preA (s_F σ) ^^^ (-1))) i = bt 0 i := by rw [q]
        rw [b_and, bt_not _ (by omega), b_0, bt_pre hn (by omega), hb] at h1
        by_cases y : i < f_n (s_F σ)
        · exact y
        · rw [decide_eq_false y] at h1
          simp at h1
      have hst : StC (rmN (s_F σ) x) (ldN (s_F σ)) (e_X7_setOut 1 x μ) := fun i hi => ⟨a3 i hi, a2 i hi ⟨a3 i hi, hbit i hi⟩, ldN_le ok.g i, rmN_le ok.g i⟩
      have f1 := fr_X7_setOut 1 x μ
      have hc1 : CSR σ R (e_X7_setOut 1 x μ) := ⟨h.2.1.fr f1 (by decide), h.2.2.2.1.fr f1 (by decide)⟩
      generalize e_X7_setOut 1 x μ = μ3 at hst hc1 ⊢
      obtain ⟨p1, v1⟩ := C_moment hc1.1.F
      obtain ⟨p2, v2⟩ := C_fewest hst (m := momA (s_F σ)) (by omega)
      change _ = fres (wkQ σ x) at v2
      rw [v1, v2]
      have f2 := fr_X10_begin μ3
      have hc2 := CSR_begin hc1
      have hst2 : StC (rmN (s_F σ) x) (ldN (s_F σ)) (e_X10_begin μ3) := hst.fr f2 (by decide)
      generalize e_X10_begin μ3 = μ7 at hc2 hst2 ⊢
      obtain ⟨p3, v3⟩ := C_moment hc2.1.F
      rw [v3]
      unfold wkT
      cases hq : wkQ σ x with
      | none =>
        have e : fres none = -2 := rfl
        rw [e]
        simp only [if_true]
        exact ⟨fun _ => ⟨a1, p1, p2, fun y => absurd trivial y⟩, trivial, hc1.2⟩
      | some L =>
        have e : fres (some L) = nI L := rfl
        have hL := (ff_rg hq).2
        have hne := nI_nm2 (show L < 1000 by omega)
        obtain ⟨w1, w2, w3⟩ := C_wk77 ok hc2 hst2 (WI_start (by omega) hq) (nI L)
        rw [e, if_neg hne, if_neg hne]
        exact ⟨fun _ => ⟨a1, p1, p2, fun _ => ⟨p3, w1⟩⟩, w2, w3.2⟩
    · generalize e_X11_walks x μ = μa at m ⊢
      unfold p_X12_walks v_X12_walks e_X12_walks
      simp only [forall_eq]
      have hm0 : MSR σ R (upI μa 49 0 0) := ⟨m.1.th 0, m.2.th 0⟩
      generalize upI μa 49 0 0 = μ0 at hm0 ⊢
      obtain ⟨b1, b2⟩ := (set_eq hn x).mp q
      rw [all_N hm0.1.F, in_B s0 hall, b1, cl21, hm0.1.F.o, if_pos b2, if_pos b2]
      simp only [if_true, show ¬ ((1 : Int32) = 0) from by decide, if_false, not_false_eq_true, true_imp_iff]
      obtain ⟨a1, a2⟩ := M_laysWon ok hm0 x
      have f1 := fs_X12_laysWon x μ0
      have hm1 : MSR σ R (e_X12_laysWon x μ0) := ⟨hm0.1.fs f1 (by decide), hm0.2.fs f1 (by decide)⟩
      generalize e_X12_laysWon x μ0 = μ5 at a2 hm1 ⊢
      obtain ⟨p1, v1⟩ := M_moment hm1.1.F
      obtain ⟨w1, w2⟩ := M_wk49 ok.g (x := x) (m := momA (s_F σ)) (by omega) (a2 0 (by omega))
      change _ = (x, momA (s_F σ), nI ((wkQ σ x).getD 127)) at w2
      rw [v1, w2]
      dsimp only
      unfold wkT
      cases hq : wkQ σ x with
      | none =>
        have e : fres none = -2 := rfl
        have e2 : (none : Option Nat).getD 127 = 127 := rfl
        have g : ¬ (nI 127 ≤ 126) := by decide
        rw [e, e2, if_neg g, if_neg g]
        exact ⟨fun _ => ⟨a1, p1, w1, fun y => absurd y g⟩, rfl, hm1.2⟩
      | some L =>
        have e : fres (some L) = nI L := rfl
        have e2 : (some L).getD 127 = L := rfl
        have hL := (ff_rg hq).2
        have g : nI L ≤ 126 := (nI_leI (b := 126) (by omega) (by omega)).mpr (by omega)
        have f2 : Fs [1001] μ5 (upI μ5 49 1 0) := Fs.upF Fs.rfl (by simp)
        obtain ⟨y1, y2, y3⟩ := M_wk96 ok (MSR_begin hm1) (fun a ha => (a2 a ha).fs f2 (by decide)) (WI_start (by omega) hq) (nI L)
        rw [e, e2, if_pos g, if_pos g]
        exact ⟨fun _ => ⟨a1, p1, w1, fun _ => y1⟩, y2, y3.2⟩
  · refine Two (v := -1) (R' := R) h fC (fs_X12_walks _ _) ?_ ?_ (by decide) (by decide)
    · unfold p_X11_walks v_X11_walks e_X11_walks
      rw [C_present h.2.1.F, if_neg q, if_neg q]
      exact ⟨fun y => absurd y q, rfl, h.2.2.2.1⟩
    · generalize e_X11_walks x μ = μa at m ⊢
      unfold p_X12_walks v_X12_walks e_X12_walks
      simp only [forall_eq]
      have hm0 : MSR σ R (upI μa 49 0 0) := ⟨m.1.th 0, m.2.th 0⟩
      generalize upI μa 49 0 0 = μ0 at hm0 ⊢
      rw [all_N hm0.1.F, in_B s0 hall, cl21, hm0.1.F.o]
      cases b1 : inB x 0 ((2 ^ f_n (s_F σ) - 1 : Nat) : Int)
      · simp only [Bool.false_eq_true, if_false, if_true]
        exact ⟨fun z => absurd trivial z, trivial, hm0.2⟩
      · have b2 : ¬ (x &&& f_o (s_F σ) = 0) := fun y => q ((set_eq hn x).mpr ⟨b1, y⟩)
        rw [if_neg b2, if_neg b2]
        simp only [if_true, show ¬ ((1 : Int32) = 0) from by decide, if_false]
        exact ⟨fun _ y => absurd y b2, trivial, hm0.2⟩
end WD

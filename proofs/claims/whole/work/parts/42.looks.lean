/-! looks: the model, and the call -/
section LM
variable {σ : ST} {R : List Int64} {μ : Mm}
theorem M_lk65 {k n c : Nat} (hn : n ≤ 20) (h70 : ∀ w n, w ≤ 18 → n ≤ 20 → μ.1 70 (21 * w + n) = f_p (wiG σ k w n) k) (a b d : Int32) : whP (fun s : Int32 × Int32 × Int32 × Int32 × Int32 × Int32 × Int32 × Int32 => bd_X12_looks_65 μ s.1 s.2.1 s.2.2.1 s.2.2.2.1 s.2.2.2.2.1 s.2.2.2.2.2.1 s.2.2.2.2.2.2.1 s.2.2.2.2.2.2.2) (fun s : Int32 × Int32 × Int32 × Int32 × Int32 × Int32 × Int32 × Int32 => sd_X12_looks_65 μ s.1 s.2.1 s.2.2.1 s.2.2.2.1 s.2.2.2.2.1 s.2.2.2.2.2.1 s.2.2.2.2.2.2.1 s.2.2.2.2.2.2.2) FU (mkb (fun w => asW σ k w 21) 19, a, b, nI n, d, pl c, 0, 0) ∧ whl (fun s : Int32 × Int32 × Int32 × Int32 × Int32 × Int32 × Int32 × Int32 => bd_X12_looks_65 μ s.1 s.2.1 s.2.2.1 s.2.2.2.1 s.2.2.2.2.1 s.2.2.2.2.2.1 s.2.2.2.2.2.2.1 s.2.2.2.2.2.2.2) (fun _ : Int32 × Int32 × Int32 × Int32 × Int32 × Int32 × Int32 × Int32 => (0, 0, 0, 0, 0, 0, 0)) FU (mkb (fun w => asW σ k w 21) 19, a, b, nI n, d, pl c, 0, 0) = (mkb (fun w => asW σ k w 21) 19, a, b, nI n, d, pl c, nI (cwN σ k n c 19)) := by
  refine lpF (f := fun s : Int32 × Int32 × Int32 × Int32 × Int32 × Int32 × Int32 × Int32 => bd_X12_looks_65 μ s.1 s.2.1 s.2.2.1 s.2.2.2.1 s.2.2.2.2.1 s.2.2.2.2.2.1 s.2.2.2.2.2.2.1 s.2.2.2.2.2.2.2) (sd := fun s : Int32 × Int32 × Int32 × Int32 × Int32 × Int32 × Int32 × Int32 => sd_X12_looks_65 μ s.1 s.2.1 s.2.2.1 s.2.2.2.1 s.2.2.2.2.1 s.2.2.2.2.2.1 s.2.2.2.2.2.2.1 s.2.2.2.2.2.2.2) (fun w => (mkb (fun w => asW σ k w 21) 19, a, b, nI n, d, pl c, nI (cwN σ k n c w), nI w)) 19 (by omega) (fun w hw => ?_) ⟨fun y => absurd (show (19 : Int32) ≤ nI 19 by decide) y, if_pos (show (19 : Int32) ≤ nI 19 by decide)⟩
  have g19 : ¬ ((19 : Int32) ≤ nI w) := fun y => by have := (nI_leI (a := 19) (by omega) (by omega)).mp y; omega
  dsimp only
  unfold sd_X12_looks_65 bd_X12_looks_65
  rw [if_neg g19, has_b _ (by omega), bt_mkb (by omega) (by omega), page_N, nI_clamp (by omega), h70 w n (by omega) hn, nI_1, decide_eq_true hw, Bool.true_and]
  simp only [one0]
  refine ⟨fun _ _ => vp_in_nI (by omega) (by omega), ?_⟩
  have ec : cwN σ k n c (w + 1) = cwN σ k n c w + (if (asW σ k w 21 && decide (f_p (wiG σ k w n) k = pl c)) then 1 else 0) := rfl
  rw [ec]
  have f0 : v_X12_flag 0 = 0 := rfl
  have f1 : v_X12_flag 1 = 1 := rfl
  by_cases q : f_p (wiG σ k w n) k = pl c
  · cases asW σ k w 21
    · simp [q, f0]
    · simp [q, f1, nI_1]
  · cases asW σ k w 21
    · simp [q, f0]
    · simp [q, f0]
theorem M_lk52 {k n : Nat} (hn : n ≤ 20) (h70 : ∀ w n, w ≤ 18 → n ≤ 20 → μ.1 70 (21 * w + n) = f_p (wiG σ k w n) k) (a b : Int32) : whP (fun s : Int32 × Int32 × Int32 × Int32 × Int32 × Int32 => bd_X12_looks_52 μ s.1 s.2.1 s.2.2.1 s.2.2.2.1 s.2.2.2.2.1 s.2.2.2.2.2) (fun s : Int32 × Int32 × Int32 × Int32 × Int32 × Int32 => sd_X12_looks_52 μ s.1 s.2.1 s.2.2.1 s.2.2.2.1 s.2.2.2.2.1 s.2.2.2.2.2) FU (mkb (fun w => asW σ k w 21) 19, a, b, nI n, 0, -9) ∧ whl (fun s : Int32 × Int32 × Int32 × Int32 × Int32 × Int32 => bd_X12_looks_52 μ s.1 s.2.1 s.2.2.1 s.2.2.2.1 s.2.2.2.2.1 s.2.2.2.2.2) (fun _ : Int32 × Int32 × Int32 × Int32 × Int32 × Int32 => (0, 0, 0, 0, 0)) FU (mkb (fun w => asW σ k w 21) 19, a, b, nI n, 0, -9) = (mkb (fun w => asW σ k w 21) 19, a, b, nI n, nI (moL σ k n)) := by
  refine lpF (f := fun s : Int32 × Int32 × Int32 × Int32 × Int32 × Int32 => bd_X12_looks_52 μ s.1 s.2.1 s.2.2.1 s.2.2.2.1 s.2.2.2.2.1 s.2.2.2.2.2) (sd := fun s : Int32 × Int32 × Int32 × Int32 × Int32 × Int32 => sd_X12_looks_52 μ s.1 s.2.1 s.2.2.1 s.2.2.2.1 s.2.2.2.2.1 s.2.2.2.2.2) (fun c => (mkb (fun w => asW σ k w 21) 19, a, b, nI n, nI (mxL (fun c => cwN σ k n c 19) c), pl c)) 19 (by omega) (fun c hc => ?_) ⟨fun y => absurd (show (9 : Int32) < pl 19 by decide) y, if_pos (show (9 : Int32) < pl 19 by decide)⟩
  obtain ⟨-, f2, f3⟩ := pl_f c (by omega)
  have g9 : ¬ ((9 : Int32) < pl c) := fun y => by have := f3.mp y; omega
  obtain ⟨w1, w2⟩ := M_lk65 (c := c) hn h70 a b (nI (mxL (fun c => cwN σ k n c 19) c))
  have h1 : mxL (fun c => cwN σ k n c 19) c ≤ 19 := mxL_le (fun c => cN_le _ 19) c
  have h2 : cwN σ k n c 19 ≤ 19 := cN_le _ 19
  dsimp only
  unfold sd_X12_looks_52 bd_X12_looks_52
  rw [if_neg g9, w2]
  dsimp only
  rw [f2]
  simp only [nI_ltI (show mxL (fun c => cwN σ k n c 19) c < 2 ^ 31 by omega) (show cwN σ k n c 19 < 2 ^ 31 by omega)]
  refine ⟨fun _ => w1, ?_⟩
  have es : mxL (fun c => cwN σ k n c 19) (c + 1) = if mxL (fun c => cwN σ k n c 19) c < cwN σ k n c 19 then cwN σ k n c 19 else mxL (fun c => cwN σ k n c 19) c := rfl
  rw [es]
  by_cases q : mxL (fun c => cwN σ k n c 19) c < cwN σ k n c 19
  · rw [if_pos q, if_pos q]
  · rw [if_neg q, if_neg q]
def blM (f : Nat → Nat) : Nat → Int32 × Int32
  | 0 => (-1, 1000000)
  | n + 1 => (nI (blL f n).1, nI (blL f n).2)
theorem M_lk38 {k : Nat} (h70 : ∀ w n, w ≤ 18 → n ≤ 20 → μ.1 70 (21 * w + n) = f_p (wiG σ k w n) k) : whP (fun s : Int32 × Int32 × Int32 × Int32 => bd_X12_looks_38 μ s.1 s.2.1 s.2.2.1 s.2.2.2) (fun s : Int32 × Int32 × Int32 × Int32 => sd_X12_looks_38 μ s.1 s.2.1 s.2.2.1 s.2.2.2) FU (mkb (fun w => asW σ k w 21) 19, -1, 1000000, 0) ∧ whl (fun s : Int32 × Int32 × Int32 × Int32 => bd_X12_looks_38 μ s.1 s.2.1 s.2.2.1 s.2.2.2) (fun _ : Int32 × Int32 × Int32 × Int32 => (0, 0)) FU (mkb (fun w => asW σ k w 21) 19, -1, 1000000, 0) = (nI (blL (moL σ k) 20).1, nI (blL (moL σ k) 20).2) := by
  refine lpF (f := fun s : Int32 × Int32 × Int32 × Int32 => bd_X12_looks_38 μ s.1 s.2.1 s.2.2.1 s.2.2.2) (sd := fun s : Int32 × Int32 × Int32 × Int32 => sd_X12_looks_38 μ s.1 s.2.1 s.2.2.1 s.2.2.2) (fun n => (mkb (fun w => asW σ k w 21) 19, (blM (moL σ k) n).1, (blM (moL σ k) n).2, nI n)) 21 (by omega) (fun n hn => ?_) ⟨fun y => absurd (show (20 : Int32) < nI 21 by decide) y, if_pos (show (20 : Int32) < nI 21 by decide)⟩
  have g20 : ¬ ((20 : Int32) < nI n) := fun y => by have := (nI_ltI (a := 20) (by omega) (by omega)).mp y; omega
  obtain ⟨w1, w2⟩ := M_lk52 (n := n) (by omega) h70 (blM (moL σ k) n).1 (blM (moL σ k) n).2
  have hm := moL_le σ k n
  dsimp only
  unfold sd_X12_looks_38 bd_X12_looks_38
  rw [if_neg g20, w2]
  dsimp only
  rw [nI_1]
  refine ⟨fun _ => w1, ?_⟩
  cases n with
  | zero =>
    have e1 : blM (moL σ k) 0 = (-1, 1000000) := rfl
    have e2 : blM (moL σ k) (0 + 1) = (nI 0, nI (moL σ k 0)) := rfl
    rw [e1, e2]
    dsimp only
    have t1 : (1000000 : Int32).toInt = 1000000 := by decide +kernel
    have g1 : ¬ ((1000000 : Int32) ≤ nI (moL σ k 0)) := by rw [fa_le, nI_toInt (by omega), t1]; omega
    have g2 : nI (moL σ k 0) < 1000000 := by rw [fa_lt, nI_toInt (by omega), t1]; omega
    rw [if_neg g1, if_pos g2]
  | succ n =>
    have e1 : blM (moL σ k) (n + 1) = (nI (blL (moL σ k) n).1, nI (blL (moL σ k) n).2) := rfl
    have e2 : blM (moL σ k) (n + 1 + 1) = (nI (blL (moL σ k) (n + 1)).1, nI (blL (moL σ k) (n + 1)).2) := rfl
    have e3 : blL (moL σ k) (n + 1) = if (blL (moL σ k) n).2 ≤ moL σ k (n + 1) then blL (moL σ k) n else (n + 1, moL σ k (n + 1)) := rfl
    rw [e1, e2, e3]
    dsimp only
    have hb := blL_le (moL_le σ k) n
    simp only [nI_leI (show (blL (moL σ k) n).2 < 2 ^ 31 by omega) (show moL σ k (n + 1) < 2 ^ 31 by omega), nI_ltI (show moL σ k (n + 1) < 2 ^ 31 by omega) (show (blL (moL σ k) n).2 < 2 ^ 31 by omega)]
    by_cases q : (blL (moL σ k) n).2 ≤ moL σ k (n + 1)
    · rw [if_pos q, if_pos q, if_neg (show ¬ moL σ k (n + 1) < (blL (moL σ k) n).2 by omega)]
    · rw [if_neg q, if_neg q, if_pos (show moL σ k (n + 1) < (blL (moL σ k) n).2 by omega)]
def lkV (σ : ST) (k : Nat) : Int32 := if mkb (fun w => asW σ k w 21) 19 = 0 then -2 else nI (blL (moL σ k) 20).1
def lkT (σ : ST) (R : List Int64) (k : Nat) : List Int64 := if mkb (fun w => asW σ k w 21) 19 = 0 then R else [(nI (blL (moL σ k) 20).2).toInt64]
theorem call_looks (h : Sim σ R μ) (x : Int32) : Call (p_X11_looks x μ) (p_X12_looks x (e_X11_looks x μ)) (v_X11_looks x μ) (v_X12_looks x (e_X11_looks x μ)) (e_X12_looks x (e_X11_looks x μ)) := by
  have fC := fr_X11_looks x μ
  have m := h.m1 fC (by decide)
  have hn := h.1.g.1
  have ok := h.1
  by_cases hk : hasF (s_F σ) x = true
  · obtain ⟨kc, ke⟩ := hasF_cl hn hk
    refine Two (v := lkV σ x.toNatClampNeg) (R' := lkT σ R x.toNatClampNeg) h fC (fs_X12_looks _ _) ?_ ?_ (by decide) (by decide)
    · unfold p_X11_looks v_X11_looks e_X11_looks
      rw [C_has h.2.1.F, hk]
      simp only [forall_eq, if_true, show ¬ ((1 : Int32) = 0) from by decide, if_false, not_false_eq_true, true_imp_iff]
      generalize x.toNatClampNeg = k at kc ke ⊢
      subst ke
      obtain ⟨a1, a2, a3⟩ := C_gather ok ⟨h.2.1, h.2.2.2.1⟩ kc
      have f := fr_X11_gatherCrowds (nI k) μ
      have hc2 : CSR σ R (e_X11_gatherCrowds (nI k) μ) := ⟨h.2.1.fr f (by decide), h.2.2.2.1.fr f (by decide)⟩
      rw [a2]
      generalize e_X11_gatherCrowds (nI k) μ = μ3 at a3 hc2 ⊢
      unfold lkV lkT
      by_cases q : mkb (fun w => asW σ k w 21) 19 = 0
      · rw [if_pos q, if_pos q, if_pos q]
        simp only [if_true]
        exact ⟨⟨a1, fun y => absurd trivial y⟩, trivial, hc2.2⟩
      · rw [if_neg q, if_neg q, if_neg q]
        simp only [show ¬ ((1 : Int32) = 0) from by decide, if_false]
        have hmo : ∀ n, n ≤ 20 → p_X11_mostOnOnePlace (nI n) μ3 ∧ v_X11_mostOnOnePlace (nI n) μ3 = nI (moL σ k n) := fun n hn => C_most (f := fun n c => cwN σ k n c 19) a3 (fun n c => cN_le _ 19) hn
        obtain ⟨m1, m2⟩ := hmo 0 (by omega)
        have e0 : nI 0 = 0 := rfl
        rw [e0] at m1 m2
        rw [m2]
        obtain ⟨k1, k2⟩ := lpF (f := fun s : Int32 × Int32 × Int32 => bd_X11_looks_35 μ3 s.1 s.2.1 s.2.2) (sd := fun s : Int32 × Int32 × Int32 => sd_X11_looks_35 μ3 s.1 s.2.1 s.2.2) (dd := fun _ : Int32 × Int32 × Int32 => ((0, 0) : Int32 × Int32)) (fun i => (nI (blL (moL σ k) i).1, nI (blL (moL σ k) i).2, nI (i + 1))) 20 (r := (nI (blL (moL σ k) 20).1, nI (blL (moL σ k) 20).2)) (by omega) (fun i hi => by
          have g20 : ¬ ((20 : Int32) < nI (i + 1)) := fun y => by have := (nI_ltI (a := 20) (by omega) (by omega)).mp y; omega
          obtain ⟨n1, n2⟩ := hmo (i + 1) (by omega)
          have hb := blL_le (moL_le σ k) i
          have hm := moL_le σ k (i + 1)
          dsimp only
          unfold sd_X11_looks_35 bd_X11_looks_35
          rw [if_neg g20, n2, nI_1]
          simp only [nI_leI (show (blL (moL σ k) i).2 < 2 ^ 31 by omega) (show moL σ k (i + 1) < 2 ^ 31 by omega)]
          refine ⟨fun _ => n1, ?_⟩
          have e3 : blL (moL σ k) (i + 1) = if (blL (moL σ k) i).2 ≤ moL σ k (i + 1) then blL (moL σ k) i else (i + 1, moL σ k (i + 1)) := rfl
          rw [e3]
          by_cases q2 : (blL (moL σ k) i).2 ≤ moL σ k (i + 1)
          · rw [if_pos q2, if_pos q2, if_pos q2]
          · rw [if_neg q2, if_neg q2, if_neg q2]) ⟨fun y => absurd (show (20 : Int32) < nI (20 + 1) by decide) y, if_pos (show (20 : Int32) < nI (20 + 1) by decide)⟩
        have k2' : whl (fun s : Int32 × Int32 × Int32 => bd_X11_looks_35 μ3 s.1 s.2.1 s.2.2) (fun _ : Int32 × Int32 × Int32 => ((0, 0) : Int32 × Int32)) FU (0, nI (moL σ k 0), 1) = (nI (blL (moL σ k) 20).1, nI (blL (moL σ k) 20).2) := k2
        rw [k2']
        obtain ⟨q1, q2⟩ := CSR_add (CSR_begin hc2) (by simp) (nI (blL (moL σ k) 20).2).toInt64
        exact ⟨⟨a1, fun _ => ⟨m1, k1, q1⟩⟩, rfl, q2.2⟩
    · generalize e_X11_looks x μ = μa at m ⊢
      unfold p_X12_looks v_X12_looks e_X12_looks
      simp only [forall_eq]
      have hm0 : MSR σ R (upI μa 49 0 0) := ⟨m.1.th 0, m.2.th 0⟩
      generalize upI μa 49 0 0 = μ0 at hm0 ⊢
      rw [M_isOne hm0.1.F, hk]
      simp only [if_true, show ¬ ((1 : Int32) = 0) from by decide, if_false, not_false_eq_true, true_imp_iff]
      generalize x.toNatClampNeg = k at kc ke ⊢
      subst ke
      obtain ⟨a1, a2, a3⟩ := M_wishesOf ok hm0 kc
      have f := fs_X12_wishesOf (nI k) μ0
      have hm1 : MSR σ R (e_X12_wishesOf (nI k) μ0) := ⟨hm0.1.fs f (by decide), hm0.2.fs f (by decide)⟩
      rw [a2]
      generalize e_X12_wishesOf (nI k) μ0 = μ1 at hm1 a3 ⊢
      unfold lkV lkT
      obtain ⟨w1, w2⟩ := M_lk38 a3
      rw [w2]
      by_cases q : mkb (fun w => asW σ k w 21) 19 = 0
      · rw [if_pos q, if_pos q, if_pos q]
        exact ⟨⟨a1, fun y => absurd q y⟩, rfl, hm1.2⟩
      · rw [if_neg q, if_neg q, if_neg q]
        obtain ⟨q1, q2⟩ := MSR_add (MSR_begin hm1) (by simp) (nI (blL (moL σ k) 20).2).toInt64
        exact ⟨⟨a1, fun _ => ⟨w1, q1⟩⟩, rfl, q2.2⟩
  · have hk' : hasF (s_F σ) x = false := by simpa using hk
    refine Two (v := -1) (R' := R) h fC (fs_X12_looks _ _) ?_ ?_ (by decide) (by decide)
    · unfold p_X11_looks v_X11_looks e_X11_looks
      rw [C_has h.2.1.F, hk']
      simp only [Bool.false_eq_true, if_false, if_true]
      exact ⟨fun z => absurd trivial z, trivial, h.2.2.2.1⟩
    · generalize e_X11_looks x μ = μa at m ⊢
      unfold p_X12_looks v_X12_looks e_X12_looks
      simp only [forall_eq]
      have hm0 : MSR σ R (upI μa 49 0 0) := ⟨m.1.th 0, m.2.th 0⟩
      generalize upI μa 49 0 0 = μ0 at hm0 ⊢
      rw [M_isOne hm0.1.F, hk']
      simp only [Bool.false_eq_true, if_false, if_true]
      exact ⟨fun z => absurd trivial z, trivial, hm0.2⟩
end LM

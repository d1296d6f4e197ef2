/-! faints -/
def nS (f : Nat → Nat) : Nat → Nat
  | 0 => 0
  | n + 1 => nS f n + f n
theorem nS_congr {f g : Nat → Nat} : ∀ {n : Nat}, (∀ i, i < n → f i = g i) → nS f n = nS g n
  | 0, _ => rfl
  | n + 1, h => by
    unfold nS
    rw [nS_congr (fun i hi => h i (by omega)), h n (by omega)]
theorem nS_shift (f : Nat → Nat) : ∀ n, nS f (n + 1) = f 0 + nS (fun s => f (s + 1)) n
  | 0 => by simp [nS]
  | n + 1 => by
    show nS f (n + 1) + f (n + 1) = f 0 + (nS (fun s => f (s + 1)) n + f (n + 1))
    rw [nS_shift f n]; omega
theorem nS_rev (f : Nat → Nat) : ∀ n, nS (fun s => f (n - s)) (n + 1) = nS f (n + 1)
  | 0 => rfl
  | n + 1 => by
    rw [nS_shift f (n + 1)]
    show nS (fun s => f (n + 1 - s)) (n + 1) + f (n + 1 - (n + 1)) = _
    rw [show n + 1 - (n + 1) = 0 by omega, ← nS_rev (fun s => f (s + 1)) n, Nat.add_comm]
    congr 1
    exact nS_congr (fun i hi => by rw [show n + 1 - i = n - i + 1 by omega])
theorem nS_le {f : Nat → Nat} {B : Nat} : ∀ {n : Nat}, (∀ i, i < n → f i ≤ B) → nS f n ≤ n * B
  | 0, _ => by simp [nS]
  | n + 1, h => by
    have h1 := nS_le (n := n) (fun i hi => h i (by omega))
    have h2 := h n (by omega)
    unfold nS
    rw [Nat.succ_mul]
    omega
theorem mkN_add {P Q S : Nat → Bool} : ∀ {n : Nat}, (∀ i, i < n → S i = (P i || Q i) ∧ (P i && Q i) = false) → mkN S n = mkN P n + mkN Q n
  | 0, _ => rfl
  | n + 1, h => by
    have ih := mkN_add (n := n) (fun i hi => h i (by omega))
    obtain ⟨h1, h2⟩ := h n (by omega)
    unfold mkN
    rw [ih, h1]
    cases hp : P n <;> cases hq : Q n <;> simp [hp, hq] at h2 ⊢ <;> omega
theorem mkN_tb {s n : Nat} (hn : n ≤ 7) (hs : s < 2 ^ n) : mkN (fun i => s.testBit i) n = s := by
  have h7 := pow7 hn
  have hl := mkN_lt (fun i => s.testBit i) n
  have e : nI s = nI (mkN (fun i => s.testBit i) n) := by
    rw [← mkb_N _ hn]
    apply b_ext
    intro i hi
    rw [bt_nIt hi, bt_mkb (by omega) hi]
    by_cases q : i < n
    · rw [decide_eq_true q, Bool.true_and]
    · rw [tb_hi hs (by omega)]; simp
  rw [nI_eq (by omega) (by omega)] at e
  exact e.symm
section FA
variable {F : FL}
/-- who isn't in a set of those who are there: the difference of the numbers -/
theorem compl (hn : f_n F ≤ 7) {s : Nat} (hs : subB F s = true) (hs2 : s < 2 ^ f_n F) : pN F - s = mkN (fun i => !bt (f_o F) i && !s.testBit i) (f_n F) := by
  have e := mkN_add (S := fun i => !bt (f_o F) i) (P := fun i => s.testBit i) (Q := fun i => !bt (f_o F) i && !s.testBit i) (n := f_n F) (fun i hi => by
    cases q : s.testBit i
    · simp
    · have := subB_bit hn (show i < 32 by omega) hs (by rw [bt_nIt (by omega)]; exact q)
      simp [this.2])
  rw [mkN_tb hn hs2] at e
  unfold pN
  omega
theorem compl_bit (hn : f_n F ≤ 7) {s i : Nat} (hs : subB F s = true) (hs2 : s < 2 ^ f_n F) (hi : i < 32) : bt (nI (pN F - s)) i = (decide (i < f_n F) && (!bt (f_o F) i && !s.testBit i)) := by
  rw [compl hn hs hs2, ← mkb_N _ hn, bt_mkb (by omega) hi]
theorem compl_sub (hn : f_n F ≤ 7) {s : Nat} (hs : subB F s = true) (hs2 : s < 2 ^ f_n F) : subB F (pN F - s) = true := by
  refine decide_eq_true ?_
  apply b_ext
  intro i hi
  rw [b_and, bt_not _ hi, b_0, bt_pre hn hi, compl_bit hn hs hs2 hi]
  by_cases q : i < f_n F <;> cases bt (f_o F) i <;> simp [q]
theorem compl_iff (hn : f_n F ≤ 7) {s : Nat} (hs : s ≤ pN F) : subB F (pN F - s) = subB F s := by
  have hp := pN_lt F
  cases q : subB F s
  · cases q2 : subB F (pN F - s)
    · rfl
    · have := compl_sub hn q2 (by omega)
      rw [show pN F - (pN F - s) = s by omega, q] at this
      exact absurd this (by decide)
  · exact compl_sub hn q (by omega)
def bB (F : FL) (s : Nat) : Int32 := gnS (fun i => ldF F i * f_p F i) (f_n F) s
theorem compl_B (hn : f_n F ≤ 7) {s : Nat} (hs : subB F s = true) (hs2 : s < 2 ^ f_n F) : momA F + -bB F s = bB F (pN F - s) := by
  have e : bB F (pN F - s) + bB F s = momA F := by
    unfold bB gnS momA
    rw [sm_add]
    refine sm_congr (fun i hi => ?_)
    rw [compl_bit hn hs hs2 (by omega), decide_eq_true hi, bt_nIt (by omega)]
    cases q : s.testBit i
    · cases bt (f_o F) i <;> simp
    · have := subB_bit hn (show i < 32 by omega) hs (by rw [bt_nIt (by omega)]; exact q)
      simp [this.2]
  rw [← e, Int32.add_assoc, Int32.add_right_neg, Int32.add_zero]
def fN' (F : FL) (s : Nat) : Nat := cN (fun i => s.testBit i) (f_n F)
theorem compl_f (hn : f_n F ≤ 7) {s : Nat} (hs : subB F s = true) (hs2 : s < 2 ^ f_n F) : fN' F s + fN' F (pN F - s) = prN F := by
  unfold fN' prN
  refine (cN_add (fun i hi => ?_)).symm
  have hb := compl_bit hn hs hs2 (show i < 32 by omega)
  rw [bt_nIt (by omega), decide_eq_true hi, Bool.true_and] at hb
  rw [hb]
  cases q : s.testBit i
  · simp
  · have := subB_bit hn (show i < 32 by omega) hs (by rw [bt_nIt (by omega)]; exact q)
    simp [this.2]
/-- what a set of those who stay adds -/
def tM (F : FL) (p s : Nat) : Nat := if subB F s && decide (¬ bB F s ≤ 0) then (10 - p) ^ fN' F s * p ^ (prN F - fN' F s) else 0
def tC (F : FL) (p s : Nat) : Nat := if subB F s && decide (¬ momA F + -bB F s ≤ 0) then p ^ fN' F s * (10 - p) ^ (prN F - fN' F s) else 0
theorem tC_M (hn : f_n F ≤ 7) {p s : Nat} (hs : s ≤ pN F) : tC F p s = tM F p (pN F - s) := by
  have hp := pN_lt F
  unfold tC tM
  rw [compl_iff hn hs]
  cases q : subB F s
  · simp
  · rw [compl_B hn q (by omega)]
    have hf := compl_f hn q (by omega)
    rw [show prN F - fN' F s = fN' F (pN F - s) by omega, show prN F - fN' F (pN F - s) = fN' F s by omega, Nat.mul_comm]
theorem fai_up (hn : f_n F ≤ 7) (p : Nat) : nS (tC F p) (pN F + 1) = nS (tM F p) (pN F + 1) := by
  rw [← nS_rev (tM F p) (pN F)]
  exact nS_congr (fun s hs => tC_M hn (by omega))
theorem tC_le (hn : f_n F ≤ 7) {p s : Nat} (hp : p ≤ 10) (hs : s ≤ pN F) : tC F p s ≤ 10000000 := by
  have hpl := pN_lt F
  unfold tC
  by_cases q : (subB F s && decide (¬ momA F + -bB F s ≤ 0)) = true
  · rw [if_pos q]
    have hsb : subB F s = true := by simp only [Bool.and_eq_true] at q; exact q.1
    have hf := compl_f hn hsb (by omega)
    have h1 : p ^ fN' F s ≤ 10 ^ fN' F s := Nat.pow_le_pow_left hp _
    have h2 : (10 - p) ^ (prN F - fN' F s) ≤ 10 ^ (prN F - fN' F s) := Nat.pow_le_pow_left (by omega) _
    have h3 := Nat.mul_le_mul h1 h2
    rw [← Nat.pow_add, show fN' F s + (prN F - fN' F s) = prN F by omega] at h3
    have h4 : 10 ^ prN F ≤ 10 ^ 7 := Nat.pow_le_pow_right (by omega) (by have := prN_le F; omega)
    have h5 : (10 : Nat) ^ 7 = 10000000 := by decide
    omega
  · rw [if_neg q]; omega
end FA
section FB
variable {σ : ST} {F : FL} {R : List Int64} {μ : Mm}
theorem C_raised (a t : Nat) (ha : a < 2 ^ 31) (ht : t < 2 ^ 31) : p_X11_raised (nI a) (nI t) μ ∧ v_X11_raised (nI a) (nI t) μ = lN (a ^ t) := by
  refine lpF (f := fun s : Int32 × Int32 × Int64 × Int32 => bd_X11_raised_5 μ s.1 s.2.1 s.2.2.1 s.2.2.2) (sd := fun s : Int32 × Int32 × Int64 × Int32 => sd_X11_raised_5 μ s.1 s.2.1 s.2.2.1 s.2.2.2) (dd := fun _ : Int32 × Int32 × Int64 × Int32 => 0) (fun i => (nI a, nI t, lN (a ^ i), nI i)) t (r := lN (a ^ t)) (by omega) (fun i hi => ⟨trivial, ?_⟩) ⟨trivial, ?_⟩
  · dsimp only
    unfold bd_X11_raised_5
    rw [if_neg (nI_ge hi (by omega)), nI_1, nI_l ha, lN_mul, Nat.pow_succ]
  · dsimp only
    unfold bd_X11_raised_5
    rw [if_pos (nI_le (Nat.le_refl _) (by omega))]
theorem C_gain_f (hc : CS σ μ) (a b c : Int32) : whP (fun s : Int32 × Int32 × Int32 × Int32 × Mm => bd_X11_faints_43 s.1 s.2.1 s.2.2.1 s.2.2.2.1 s.2.2.2.2) (fun s : Int32 × Int32 × Int32 × Int32 × Mm => sd_X11_faints_43 s.1 s.2.1 s.2.2.1 s.2.2.2.1 s.2.2.2.2) FU (a, b, c, 0, μ) ∧ (fun z : Int32 × Int32 × Int32 × Mm => z.1 = a ∧ z.2.1 = b ∧ z.2.2.1 = c ∧ Fr [34] μ z.2.2.2 ∧ ∀ i, i < f_n (s_F σ) → z.2.2.2.1 34 i = -ldF (s_F σ) i * f_p (s_F σ) i) (whl (fun s : Int32 × Int32 × Int32 × Int32 × Mm => bd_X11_faints_43 s.1 s.2.1 s.2.2.1 s.2.2.2.1 s.2.2.2.2) (fun s : Int32 × Int32 × Int32 × Int32 × Mm => (0, 0, 0, s.2.2.2.2)) FU (a, b, c, 0, μ)) := by
  have hn := hc.F.1
  refine lpI (f := fun s : Int32 × Int32 × Int32 × Int32 × Mm => bd_X11_faints_43 s.1 s.2.1 s.2.2.1 s.2.2.2.1 s.2.2.2.2) (sd := fun s : Int32 × Int32 × Int32 × Int32 × Mm => sd_X11_faints_43 s.1 s.2.1 s.2.2.1 s.2.2.2.1 s.2.2.2.2) (dd := fun s : Int32 × Int32 × Int32 × Int32 × Mm => (0, 0, 0, s.2.2.2.2))
    (I := fun i s => i ≤ f_n (s_F σ) ∧ ∃ μ', s = (a, b, c, nI i, μ') ∧ Fr [34] μ μ' ∧ ∀ j, j < i → μ'.1 34 j = -ldF (s_F σ) j * f_p (s_F σ) j)
    (R := fun z : Int32 × Int32 × Int32 × Mm => z.1 = a ∧ z.2.1 = b ∧ z.2.2.1 = c ∧ Fr [34] μ z.2.2.2 ∧ ∀ i, i < f_n (s_F σ) → z.2.2.2.1 34 i = -ldF (s_F σ) i * f_p (s_F σ) i) (f_n (s_F σ)) (by omega) ?_ (s0 := (a, b, c, 0, μ)) ⟨Nat.zero_le _, μ, rfl, Fr.rfl, fun j hj => absurd hj (by omega)⟩
  rintro i _ hi ⟨hi2, μ', rfl, hf, hg⟩
  dsimp only
  have hc' : CS σ μ' := hc.fr hf (by decide)
  unfold sd_X11_faints_43 bd_X11_faints_43
  rw [hc'.F.sz, nI_1]
  simp only [nI_leI (show f_n (s_F σ) < 2 ^ 31 by omega) (show i < 2 ^ 31 by omega), nI_clamp (show i < 2 ^ 31 by omega)]
  rcases Nat.lt_or_ge i (f_n (s_F σ)) with z | z
  · rw [if_neg (show ¬ f_n (s_F σ) ≤ i by omega), (C_load hc'.F z).2, show μ'.1 4 i = f_p (s_F σ) i from hc'.F.p (by omega)]
    refine ⟨fun _ => ⟨(C_load hc'.F z).1, vp_in_nI (by omega) (by omega), vp_in_nI (by omega) (by omega)⟩, .inl ⟨_, rfl, z, by omega, _, rfl, hf.up (by simp), fun j hj => ?_⟩⟩
    rw [rI]
    by_cases e : j = i
    · subst e; rw [if_pos ⟨rfl, rfl⟩]
    · rw [if_neg (by omega)]; exact hg j (by omega)
  · have : i = f_n (s_F σ) := by omega
    subst this
    rw [if_pos (Nat.le_refl _)]
    exact ⟨fun y => absurd (Nat.le_refl _) y, .inr ⟨_, rfl, rfl, rfl, rfl, hf, hg⟩⟩
theorem t10 : (10 : Int32).toInt = 10 := by decide +kernel
theorem s10 : (10 : Int64).toInt = 10 := by decide +kernel
theorem C_faints (ok : OK σ) (hc : CSR σ R μ) {p : Nat} (hp : p ≤ 10) : p_X11_faints (nI p) μ ∧ CSR σ (frT (nS (tM (s_F σ) p) (pN (s_F σ) + 1)) (10 ^ prN (s_F σ))) (e_X11_faints (nI p) μ) := by
  have hn := ok.g.1
  have hpl := pN_lt (s_F σ)
  have h7 := pow7 hn
  have hpr := prN_le (s_F σ)
  unfold p_X11_faints e_X11_faints
  have hin : inB (nI p) 0 10 = true := by unfold inB; rw [nI_toInt (by omega)]; exact decide_eq_true (by omega)
  rw [ite_in t0 t10, hin]
  simp only [forall_eq, if_true]
  obtain ⟨p1, v1⟩ := C_moment hc.1.F
  rw [v1, C_present hc.1.F, bc_pre hn]
  have f1 := fr_X8_start (preA (s_F σ)) (momA (s_F σ)) μ
  obtain ⟨s1, s2⟩ := start_33 (preA (s_F σ)) (momA (s_F σ)) μ
  have c1 : CSR σ R (e_X8_start (preA (s_F σ)) (momA (s_F σ)) μ) := ⟨hc.1.fr f1 (by decide), hc.2.fr f1 (by decide)⟩
  generalize e_X8_start (preA (s_F σ)) (momA (s_F σ)) μ = μ2 at s1 s2 c1 ⊢
  obtain ⟨k1, k2, k3, k4, k5, k6⟩ := C_gain_f c1.1 (nI p) (preA (s_F σ)) (nI (prN (s_F σ)))
  generalize whl (fun s : Int32 × Int32 × Int32 × Int32 × Mm => bd_X11_faints_43 s.1 s.2.1 s.2.2.1 s.2.2.2.1 s.2.2.2.2) _ FU _ = z at k2 k3 k4 k5 k6 ⊢
  rw [k2, k3, k4]
  have c2 : CSR σ R z.2.2.2 := ⟨c1.1.fr k5 (by decide), c1.2.fr k5 (by decide)⟩
  have s2' : z.2.2.2.1 33 2 = momA (s_F σ) := by rw [k5.1 33 (by simp)]; exact s2
  generalize z.2.2.2 = μ3 at k6 c2 s2' ⊢
  have hneg : ∀ s, gnS (fun i => -ldF (s_F σ) i * f_p (s_F σ) i) (f_n (s_F σ)) s = -bB (s_F σ) s := fun s => by
    unfold bB
    rw [← gnS_neg]
    simp only [Int32.neg_mul]
  have hstep : ∀ s, s < pN (s_F σ) + 1 → sd_X11_faints_98 μ3 (nI p) (preA (s_F σ)) (nI (prN (s_F σ))) (lN (nS (tC (s_F σ) p) s)) (nI s) ∧ bd_X11_faints_98 μ3 (nI p) (preA (s_F σ)) (nI (prN (s_F σ))) (lN (nS (tC (s_F σ) p) s)) (nI s) = .inl (nI p, preA (s_F σ), nI (prN (s_F σ)), lN (nS (tC (s_F σ) p) (s + 1)), nI (s + 1)) := fun s hs => by
    unfold sd_X11_faints_98 bd_X11_faints_98
    rw [nI_1]
    have hlt : ¬ (preA (s_F σ) < nI s) := by rw [preA_N hn, nI_ltI (by omega) (by omega)]; omega
    rw [if_neg hlt]
    have es : nS (tC (s_F σ) p) (s + 1) = nS (tC (s_F σ) p) s + tC (s_F σ) p s := rfl
    rw [es]
    cases hsb : subB (s_F σ) s
    · have hne : ¬ (nI s &&& (preA (s_F σ) ^^^ (-1)) = 0) := of_decide_eq_false hsb
      rw [if_neg hne]
      refine ⟨fun _ y => absurd y hne, ?_⟩
      have h0 : tC (s_F σ) p s = 0 := by unfold tC; rw [hsb, Bool.false_and, if_neg (by decide)]
      rw [h0, Nat.add_zero (nS (tC (s_F σ) p) s)]
    · have hye : nI s &&& (preA (s_F σ) ^^^ (-1)) = 0 := of_decide_eq_true hsb
      obtain ⟨t1, t2⟩ := C_total (F := s_F σ) (g := fun i => -ldF (s_F σ) i * f_p (s_F σ) i) hn s2' k6 hsb
      have hf := compl_f hn hsb (by omega)
      have hbc : v_J6_bitCount_0f7a4 (nI s) = nI (fN' (s_F σ) s) := bcN_c hn (by omega)
      obtain ⟨a1, a2⟩ := C_raised (μ := μ3) p (fN' (s_F σ) s) (by omega) (by omega)
      obtain ⟨b1, b2⟩ := C_raised (μ := μ3) (10 - p) (prN (s_F σ) - fN' (s_F σ) s) (by omega) (by omega)
      have e10 : (10 : Int32) - nI p = nI (10 - p) := nI_sub (a := 10) hp
      rw [if_pos hye, t2, hneg, hbc, e10, nI_sub (by omega), a2, b2, lN_mul, lN_add]
      refine ⟨fun _ _ => ⟨t1, fun _ => ⟨a1, b1⟩⟩, ?_⟩
      by_cases q : momA (s_F σ) + -bB (s_F σ) s ≤ 0
      · have h0 : tC (s_F σ) p s = 0 := by unfold tC; rw [hsb, Bool.true_and, if_neg (by simp [q])]
        rw [if_pos q, h0, Nat.add_zero (nS (tC (s_F σ) p) s)]
      · have h0 : tC (s_F σ) p s = p ^ fN' (s_F σ) s * (10 - p) ^ (prN (s_F σ) - fN' (s_F σ) s) := by unfold tC; rw [hsb, Bool.true_and, if_pos (by simp [q])]
        rw [if_neg q, h0]
  have hend : sd_X11_faints_98 μ3 (nI p) (preA (s_F σ)) (nI (prN (s_F σ))) (lN (nS (tC (s_F σ) p) (pN (s_F σ) + 1))) (nI (pN (s_F σ) + 1)) ∧ bd_X11_faints_98 μ3 (nI p) (preA (s_F σ)) (nI (prN (s_F σ))) (lN (nS (tC (s_F σ) p) (pN (s_F σ) + 1))) (nI (pN (s_F σ) + 1)) = .inr (nI (prN (s_F σ)), lN (nS (tC (s_F σ) p) (pN (s_F σ) + 1))) := by
    unfold sd_X11_faints_98 bd_X11_faints_98
    have hlt : preA (s_F σ) < nI (pN (s_F σ) + 1) := by rw [preA_N hn, nI_ltI (by omega) (by omega)]; omega
    rw [if_pos hlt]
    exact ⟨fun y => absurd hlt y, rfl⟩
  obtain ⟨w1, w2⟩ := lpF (f := fun s : Int32 × Int32 × Int32 × Int64 × Int32 => bd_X11_faints_98 μ3 s.1 s.2.1 s.2.2.1 s.2.2.2.1 s.2.2.2.2) (sd := fun s : Int32 × Int32 × Int32 × Int64 × Int32 => sd_X11_faints_98 μ3 s.1 s.2.1 s.2.2.1 s.2.2.2.1 s.2.2.2.2) (dd := fun _ : Int32 × Int32 × Int32 × Int64 × Int32 => ((0, 0) : Int32 × Int64))
    (fun s => (nI p, preA (s_F σ), nI (prN (s_F σ)), lN (nS (tC (s_F σ) p) s), nI s)) (pN (s_F σ) + 1) (by omega) hstep hend
  have w2' : whl (fun s : Int32 × Int32 × Int32 × Int64 × Int32 => bd_X11_faints_98 μ3 s.1 s.2.1 s.2.2.1 s.2.2.2.1 s.2.2.2.2) (fun _ : Int32 × Int32 × Int32 × Int64 × Int32 => ((0, 0) : Int32 × Int64)) FU (nI p, preA (s_F σ), nI (prN (s_F σ)), 0, 0) = (nI (prN (s_F σ)), lN (nS (tC (s_F σ) p) (pN (s_F σ) + 1))) := w2
  rw [w2']
  have hr10 : (10 : Int32) = nI 10 := rfl
  obtain ⟨d1, d2⟩ := C_raised (μ := μ3) 10 (prN (s_F σ)) (by omega) (by omega)
  rw [← hr10] at d1 d2
  dsimp only
  rw [d2, fai_up hn]
  have hu : nS (tC (s_F σ) p) (pN (s_F σ) + 1) ≤ (pN (s_F σ) + 1) * 10000000 := nS_le (fun i hi => tC_le hn hp (by omega))
  rw [fai_up hn] at hu
  have hd : 10 ^ prN (s_F σ) ≤ 10 ^ 7 := Nat.pow_le_pow_right (by omega) (by omega)
  have hd7 : (10 : Nat) ^ 7 = 10000000 := by decide
  have hq : (pN (s_F σ) + 1) * 10000000 ≤ 128 * 10000000 := Nat.mul_le_mul_right _ (by omega)
  obtain ⟨x1, x2⟩ := C_frac c2 (u := nS (tM (s_F σ) p) (pN (s_F σ) + 1)) (d := 10 ^ prN (s_F σ)) (by omega) (by omega) (Nat.pow_pos (by omega))
  exact ⟨fun _ _ => ⟨p1, k1, w1, d1, x1⟩, x2⟩
/-! the model's product -/
def prP (F : FL) (p s : Nat) : Nat → Nat
  | 0 => 1
  | n + 1 => prP F p s n * (if bt (f_o F) n then 1 else if s.testBit n then 10 - p else p)
theorem prP_le {F : FL} {p s : Nat} (hp : p ≤ 10) : ∀ n, prP F p s n ≤ 10 ^ n
  | 0 => by simp [prP]
  | n + 1 => by
    unfold prP
    rw [Nat.pow_succ]
    refine Nat.mul_le_mul (prP_le hp n) ?_
    by_cases q : bt (f_o F) n = true
    · rw [if_pos q]; omega
    · rw [if_neg q]
      by_cases q2 : s.testBit n = true
      · rw [if_pos q2]; omega
      · rw [if_neg q2]; omega
theorem prP_0 {F : FL} {p s i : Nat} : ∀ n, i ≤ n → prP F p s i = 0 → prP F p s n = 0
  | 0, h, e => by rw [show i = 0 by omega] at e; exact e
  | n + 1, h, e => by
    by_cases q : i = n + 1
    · rw [← q]; exact e
    · unfold prP
      rw [prP_0 n (by omega) e, Nat.zero_mul]
theorem prP_f {F : FL} {p s : Nat} : ∀ n, prP F p s n = (10 - p) ^ cN (fun i => !bt (f_o F) i && s.testBit i) n * p ^ cN (fun i => !bt (f_o F) i && !s.testBit i) n
  | 0 => by simp [prP, cN]
  | n + 1 => by
    unfold prP cN
    rw [prP_f n, Nat.pow_add, Nat.pow_add]
    cases bt (f_o F) n <;> cases s.testBit n <;> simp [Nat.mul_assoc, Nat.mul_comm, Nat.mul_left_comm]
theorem prP_t {F : FL} (hn : f_n F ≤ 7) {p s : Nat} (hs : s < 2 ^ f_n F) : (if subB F s && decide (¬ bB F s ≤ 0) then 1 else 0) * prP F p s (f_n F) = tM F p s := by
  unfold tM
  by_cases q : (subB F s && decide (¬ bB F s ≤ 0)) = true
  · have hsb : subB F s = true := by simp only [Bool.and_eq_true] at q; exact q.1
    rw [if_pos q, if_pos q, Nat.one_mul, prP_f]
    have hb : ∀ i, i < f_n F → s.testBit i = true → bt (f_o F) i = false := fun i hi y => (subB_bit hn (by omega) hsb (by rw [bt_nIt (by omega)]; exact y)).2
    have e1 : cN (fun i => !bt (f_o F) i && s.testBit i) (f_n F) = fN' F s := cN_congr (fun i hi => by
      cases y : s.testBit i
      · simp
      · simp [hb i hi y])
    have e2 : cN (fun i => !bt (f_o F) i && !s.testBit i) (f_n F) = fN' F (pN F - s) := cN_congr (fun i hi => by
      have := compl_bit hn hsb hs (show i < 32 by omega)
      rw [bt_nIt (by omega), decide_eq_true hi, Bool.true_and] at this
      exact this.symm)
    have hf := compl_f hn hsb hs
    rw [e1, e2, show prN F - fN' F s = fN' F (pN F - s) by omega]
  · rw [if_neg q, if_neg q, Nat.zero_mul]
theorem M_fa108 (hm : FlM 52 F μ) {p s b : Nat} (hp : p ≤ 10) (hb : b ≤ 1) (u d : Int64) : whP (fun s : Int32 × Int32 × Int64 × Int64 × Int32 × Int64 × Int32 => bd_X12_faints_108 μ s.1 s.2.1 s.2.2.1 s.2.2.2.1 s.2.2.2.2.1 s.2.2.2.2.2.1 s.2.2.2.2.2.2) (fun s : Int32 × Int32 × Int64 × Int64 × Int32 × Int64 × Int32 => sd_X12_faints_108 μ s.1 s.2.1 s.2.2.1 s.2.2.2.1 s.2.2.2.2.1 s.2.2.2.2.2.1 s.2.2.2.2.2.2) FU (nI p, preA F, u, d, nI s, lN b, 0) ∧ whl (fun s : Int32 × Int32 × Int64 × Int64 × Int32 × Int64 × Int32 => bd_X12_faints_108 μ s.1 s.2.1 s.2.2.1 s.2.2.2.1 s.2.2.2.2.1 s.2.2.2.2.2.1 s.2.2.2.2.2.2) (fun _ : Int32 × Int32 × Int64 × Int64 × Int32 × Int64 × Int32 => (0, 0, 0, 0, 0, 0)) FU (nI p, preA F, u, d, nI s, lN b, 0) = (nI p, preA F, u, d, nI s, lN (b * prP F p s (f_n F))) := by
  have hn := hm.1
  refine lpI (f := fun s : Int32 × Int32 × Int64 × Int64 × Int32 × Int64 × Int32 => bd_X12_faints_108 μ s.1 s.2.1 s.2.2.1 s.2.2.2.1 s.2.2.2.2.1 s.2.2.2.2.2.1 s.2.2.2.2.2.2)
    (I := fun i x => i ≤ f_n F ∧ x = (nI p, preA F, u, d, nI s, lN (b * prP F p s i), nI i))
    (R := fun z => z = (nI p, preA F, u, d, nI s, lN (b * prP F p s (f_n F)))) (f_n F) (by omega) ?_ ⟨Nat.zero_le _, by rw [show prP F p s 0 = 1 from rfl, Nat.mul_one]; rfl⟩
  rintro i _ hi ⟨hi2, rfl⟩
  refine ⟨trivial, ?_⟩
  dsimp only
  unfold bd_X12_faints_108
  rw [hm.sz, nI_1]
  have hle := prP_le (F := F) (s := s) hp i
  have hle2 : 10 ^ i ≤ 10 ^ 7 := Nat.pow_le_pow_right (by omega) (by omega)
  have hle3 : (10 : Nat) ^ 7 = 10000000 := by decide
  have hb2 : b * prP F p s i ≤ 1 * prP F p s i := Nat.mul_le_mul_right _ hb
  simp only [nI_leI (show f_n F < 2 ^ 31 by omega) (show i < 2 ^ 31 by omega)]
  rcases Nat.lt_or_ge i (f_n F) with z | z
  · rw [if_neg (show ¬ f_n F ≤ i by omega)]
    by_cases q : b * prP F p s i = 0
    · have hc : lg_cmp (lN (b * prP F p s i)) 0 ≤ 0 := by rw [cmp_le, q]; decide +kernel
      rw [if_pos hc]
      refine .inr ⟨_, rfl, ?_⟩
      have : b * prP F p s (f_n F) = 0 := by
        rcases Nat.mul_eq_zero.mp q with y | y
        · rw [y, Nat.zero_mul]
        · rw [prP_0 _ hi2 y, Nat.mul_zero]
      rw [q, this]
    · have hc : ¬ (lg_cmp (lN (b * prP F p s i)) 0 ≤ 0) := by rw [cmp_le, lN_toInt (by omega)]; omega
      rw [if_neg hc, has_b _ (by omega), has_b _ (by omega), bt_pre hn (by omega), bt_nIt (by omega), decide_eq_true z, Bool.true_and]
      refine .inl ⟨_, rfl, z, z, ?_⟩
      have e10 : (10 : Int32) - nI p = nI (10 - p) := nI_sub (a := 10) hp
      rw [e10, nI_l (by omega), nI_l (by omega)]
      have l1 : (1 : Int64) = lN 1 := rfl
      have ep : prP F p s (i + 1) = prP F p s i * (if bt (f_o F) i then 1 else if s.testBit i then 10 - p else p) := rfl
      rw [ep, ← Nat.mul_assoc, ← lN_mul, l1]
      simp only [one0]
      cases bt (f_o F) i <;> cases s.testBit i <;> simp [lN_mul]
  · rw [if_pos z]
    have : i = f_n F := by omega
    subst this
    exact .inr ⟨_, rfl, rfl⟩
theorem M_faints (ok : OK σ) (hm : MSR σ R μ) {p : Nat} (hp : p ≤ 10) : p_X12_faints (nI p) μ ∧ v_X12_faints (nI p) μ = 0 ∧ MSR σ (frT (nS (tM (s_F σ) p) (pN (s_F σ) + 1)) (10 ^ prN (s_F σ))) (e_X12_faints (nI p) μ) := by
  have hn := ok.g.1
  have hpl := pN_lt (s_F σ)
  have h7 := pow7 hn
  have hpr := prN_le (s_F σ)
  unfold p_X12_faints v_X12_faints e_X12_faints
  simp only [forall_eq]
  have hm0 : MSR σ R (upI μ 49 0 0) := ⟨hm.1.th 0, hm.2.th 0⟩
  generalize upI μ 49 0 0 = μ0 at hm0 ⊢
  have hin : inB (nI p) 0 10 = true := by unfold inB; rw [nI_toInt (by omega)]; exact decide_eq_true (by omega)
  rw [in_B s0 s10, hin, M_here hm0.1.F]
  simp only [if_true, show ¬ ((1 : Int32) = 0) from by decide, if_false, not_false_eq_true, true_imp_iff]
  obtain ⟨a1, a2⟩ := lpF (f := fun s : Int32 × Int32 × Int64 × Int64 × Int32 => bd_X12_faints_36 μ0 s.1 s.2.1 s.2.2.1 s.2.2.2.1 s.2.2.2.2) (sd := fun s : Int32 × Int32 × Int64 × Int64 × Int32 => sd_X12_faints_36 μ0 s.1 s.2.1 s.2.2.1 s.2.2.2.1 s.2.2.2.2) (dd := fun _ : Int32 × Int32 × Int64 × Int64 × Int32 => ((0, 0, 0, 0) : Int32 × Int32 × Int64 × Int64))
    (fun i => (nI p, preA (s_F σ), 0, lN (10 ^ i), nI i)) (prN (s_F σ)) (r := (nI p, preA (s_F σ), 0, lN (10 ^ prN (s_F σ)))) (by omega) (fun i hi => ⟨trivial, by
      dsimp only
      unfold bd_X12_faints_36
      rw [bc_pre hn, if_neg (nI_ge hi (by omega)), nI_1, show (10 : Int64) = lN 10 from rfl, lN_mul, Nat.pow_succ]⟩) ⟨trivial, by
      dsimp only
      unfold bd_X12_faints_36
      rw [bc_pre hn, if_pos (nI_le (Nat.le_refl _) (by omega))]⟩
  have a2' : whl (fun s : Int32 × Int32 × Int64 × Int64 × Int32 => bd_X12_faints_36 μ0 s.1 s.2.1 s.2.2.1 s.2.2.2.1 s.2.2.2.2) (fun _ : Int32 × Int32 × Int64 × Int64 × Int32 => ((0, 0, 0, 0) : Int32 × Int32 × Int64 × Int64)) FU (nI p, preA (s_F σ), 0, 1, 0) = (nI p, preA (s_F σ), 0, lN (10 ^ prN (s_F σ))) := a2
  rw [a2']
  generalize hd0 : lN (10 ^ prN (s_F σ)) = dn
  have hstep : ∀ s, s < pN (s_F σ) + 1 → sd_X12_faints_62 μ0 (nI p) (preA (s_F σ)) (lN (nS (tM (s_F σ) p) s)) dn (nI s) ∧ bd_X12_faints_62 μ0 (nI p) (preA (s_F σ)) (lN (nS (tM (s_F σ) p) s)) dn (nI s) = .inl (nI p, preA (s_F σ), lN (nS (tM (s_F σ) p) (s + 1)), dn, nI (s + 1)) := fun s hs => by
    unfold sd_X12_faints_62 bd_X12_faints_62
    have hlt : ¬ (preA (s_F σ) < nI s) := by rw [preA_N hn, nI_ltI (by omega) (by omega)]; omega
    rw [if_neg hlt, (M_momentOf hm0.1.F _).2]
    have eb : Int32.toInt64 (v_X12_flag (if (nI s &&& (preA (s_F σ) ^^^ (-1))) = 0 then (if (momO (s_F σ) (nI s)) ≤ 0 then 0 else 1 : Int32) else 0 : Int32)) = lN (if subB (s_F σ) s && decide (¬ bB (s_F σ) s ≤ 0) then 1 else 0) := by
      cases hsb : subB (s_F σ) s
      · have hne : ¬ (nI s &&& (preA (s_F σ) ^^^ (-1)) = 0) := of_decide_eq_false hsb
        rw [if_neg hne]
        simp only [Bool.false_and, Bool.false_eq_true, if_false]
        decide +kernel
      · have hye : nI s &&& (preA (s_F σ) ^^^ (-1)) = 0 := of_decide_eq_true hsb
        rw [if_pos hye, momO_s hn hsb]
        have e : gnS (fun i => ldF (s_F σ) i * f_p (s_F σ) i) (f_n (s_F σ)) s = bB (s_F σ) s := rfl
        rw [e]
        by_cases q : bB (s_F σ) s ≤ 0
        · rw [if_pos q]; simp only [q, not_true_eq_false, decide_false, Bool.and_false, Bool.false_eq_true, if_false]; decide +kernel
        · rw [if_neg q]; simp only [q, not_false_eq_true, decide_true, Bool.and_true, if_true]; decide +kernel
    rw [eb]
    obtain ⟨w1, w2⟩ := M_fa108 hm0.1.F (s := s) (b := if subB (s_F σ) s && decide (¬ bB (s_F σ) s ≤ 0) then 1 else 0) hp (by split <;> omega) (lN (nS (tM (s_F σ) p) s)) dn
    rw [w2]
    dsimp only
    rw [prP_t hn (by omega), lN_add, nI_1]
    exact ⟨fun _ => ⟨fun _ => (M_momentOf hm0.1.F _).1, w1⟩, rfl⟩
  have hend : sd_X12_faints_62 μ0 (nI p) (preA (s_F σ)) (lN (nS (tM (s_F σ) p) (pN (s_F σ) + 1))) dn (nI (pN (s_F σ) + 1)) ∧ bd_X12_faints_62 μ0 (nI p) (preA (s_F σ)) (lN (nS (tM (s_F σ) p) (pN (s_F σ) + 1))) dn (nI (pN (s_F σ) + 1)) = .inr (lN (nS (tM (s_F σ) p) (pN (s_F σ) + 1)), dn) := by
    unfold sd_X12_faints_62 bd_X12_faints_62
    have hlt : preA (s_F σ) < nI (pN (s_F σ) + 1) := by rw [preA_N hn, nI_ltI (by omega) (by omega)]; omega
    rw [if_pos hlt]
    exact ⟨fun y => absurd hlt y, rfl⟩
  obtain ⟨w1, w2⟩ := lpF (f := fun s : Int32 × Int32 × Int64 × Int64 × Int32 => bd_X12_faints_62 μ0 s.1 s.2.1 s.2.2.1 s.2.2.2.1 s.2.2.2.2) (sd := fun s : Int32 × Int32 × Int64 × Int64 × Int32 => sd_X12_faints_62 μ0 s.1 s.2.1 s.2.2.1 s.2.2.2.1 s.2.2.2.2) (dd := fun _ : Int32 × Int32 × Int64 × Int64 × Int32 => ((0, 0) : Int64 × Int64))
    (fun s => (nI p, preA (s_F σ), lN (nS (tM (s_F σ) p) s), dn, nI s)) (pN (s_F σ) + 1) (by omega) hstep hend
  have w2' : whl (fun s : Int32 × Int32 × Int64 × Int64 × Int32 => bd_X12_faints_62 μ0 s.1 s.2.1 s.2.2.1 s.2.2.2.1 s.2.2.2.2) (fun _ : Int32 × Int32 × Int64 × Int64 × Int32 => ((0, 0) : Int64 × Int64)) FU (nI p, preA (s_F σ), 0, dn, 0) = (lN (nS (tM (s_F σ) p) (pN (s_F σ) + 1)), dn) := w2
  dsimp only
  rw [w2']
  dsimp only
  rw [← hd0]
  have hu : nS (tC (s_F σ) p) (pN (s_F σ) + 1) ≤ (pN (s_F σ) + 1) * 10000000 := nS_le (fun i hi => tC_le hn hp (by omega))
  rw [fai_up hn] at hu
  have hd : 10 ^ prN (s_F σ) ≤ 10 ^ 7 := Nat.pow_le_pow_right (by omega) (by omega)
  have hd7 : (10 : Nat) ^ 7 = 10000000 := by decide
  have hq : (pN (s_F σ) + 1) * 10000000 ≤ 128 * 10000000 := Nat.mul_le_mul_right _ (by omega)
  obtain ⟨x1, x2⟩ := M_frac hm0 (u := nS (tM (s_F σ) p) (pN (s_F σ) + 1)) (d := 10 ^ prN (s_F σ)) (by omega) (by omega) (Nat.pow_pos (by omega))
  rw [← hd0] at w1
  exact ⟨⟨a1, w1, x1⟩, rfl, x2⟩
theorem call_faints (h : Sim σ R μ) (x : Int32) : Call (p_X11_faints x μ) (p_X12_faints x (e_X11_faints x μ)) (v_X11_faints x) (v_X12_faints x (e_X11_faints x μ)) (e_X12_faints x (e_X11_faints x μ)) := by
  have fC := fr_X11_faints x μ
  have m := h.m1 fC (by decide)
  by_cases q : inB x 0 10 = true
  · have q2 := of_decide_eq_true q
    obtain ⟨p, hp, hx⟩ : ∃ p : Nat, p ≤ 10 ∧ x = nI p := ⟨x.toInt.toNat, by omega, by rw [fa_eq, nI_toInt (by omega)]; omega⟩
    refine Two (v := 0) (R' := frT (nS (tM (s_F σ) p) (pN (s_F σ) + 1)) (10 ^ prN (s_F σ))) h fC (fs_X12_faints _ _) ?_ ?_ (by decide) (by decide)
    · have hv : v_X11_faints x = 0 := by unfold v_X11_faints; rw [ite_in t0 t10, q]; rfl
      rw [hv]
      subst hx
      obtain ⟨k1, k2⟩ := C_faints h.1 ⟨h.2.1, h.2.2.2.1⟩ hp
      exact ⟨k1, rfl, k2.2⟩
    · generalize e_X11_faints x μ = μa at m ⊢
      subst hx
      obtain ⟨k1, k2, k3⟩ := M_faints h.1 m hp
      exact ⟨k1, k2, k3.2⟩
  · have q' : inB x 0 10 = false := by simpa using q
    refine Two (v := -1) (R' := R) h fC (fs_X12_faints _ _) ?_ ?_ (by decide) (by decide)
    · unfold p_X11_faints v_X11_faints e_X11_faints
      rw [ite_in t0 t10, ite_in t0 t10, q']
      have hh : ¬ (x < 0) → x ≤ 10 → False := fun y1 y2 => by
        refine q (decide_eq_true ?_)
        rw [fa_lt, t0] at y1
        rw [fa_le, t10] at y2
        omega
      exact ⟨fun y1 y2 => (hh y1 y2).elim, rfl, h.2.2.2.1⟩
    · generalize e_X11_faints x μ = μa at m ⊢
      unfold p_X12_faints v_X12_faints e_X12_faints
      simp only [forall_eq]
      have hm0 : MSR σ R (upI μa 49 0 0) := ⟨m.1.th 0, m.2.th 0⟩
      generalize upI μa 49 0 0 = μ0 at hm0 ⊢
      rw [in_B s0 s10, q']
      simp only [if_true, Bool.false_eq_true, if_false]
      exact ⟨fun z => absurd trivial z, trivial, hm0.2⟩
end FB

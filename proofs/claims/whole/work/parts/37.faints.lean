/-! faints -/
def nS (f : Nat → Nat) : Nat → Nat
  | 0 => 0
  | n + 1 => nS f n + f n
theorem nS_congr {f g : Nat → Nat} : ∀ {n : Nat}, (∀ i, i < n → f i = g i) → nS f n = nS g n
  | 0, _ => rfl
  | n + 1, h => by
    unfold nS
    rw [nS_congr (fun i hi => h i (by omega)), h n (by omega)]
theorem nS_shift (f : Nat → Nat) : ∀ n, nS f (n + 1) = f 0 + nS (fun s => f (s + 1)) n
  | 0 => by simp [nS]
  | n + 1 => by
    show nS f (n + 1) + f (n + 1) = f 0 + (nS (fun s => f (s + 1)) n + f (n + 1))
    rw [nS_shift f n]; omega
theorem nS_rev (f : Nat → Nat) : ∀ n, nS (fun s => f (n - s)) (n + 1) = nS f (n + 1)
  | 0 => rfl
  | n + 1 => by
    rw [nS_shift f (n + 1)]
    show nS (fun s => f (n + 1 - s)) (n + 1) + f (n + 1 - (n + 1)) = _
    rw [show n + 1 - (n + 1) = 0 by omega, ← nS_rev (fun s => f (s + 1)) n, Nat.add_comm]
    congr 1
    exact nS_congr (fun i hi => by rw [show n + 1 - i = n - i + 1 by omega])
theorem nS_le {f : Nat → Nat} {B : Nat} : ∀ {n : Nat}, (∀ i, i < n → f i ≤ B) → nS f n ≤ n * B
  | 0, _ => by simp [nS]
  | n + 1, h => by
    have h1 := nS_le (n := n) (fun i hi => h i (by omega))
    have h2 := h n (by omega)
    unfold nS
    rw [Nat.succ_mul]
    omega
theorem mkN_add {P Q S : Nat → Bool} : ∀ {n : Nat}, (∀ i, i < n → S i = (P i || Q i) ∧ (P i && Q i) = false) → mkN S n = mkN P n + mkN Q n
  | 0, _ => rfl
  | n + 1, h => by
    have ih := mkN_add (n := n) (fun i hi => h i (by omega))
    obtain ⟨h1, h2⟩ := h n (by omega)
    unfold mkN
    rw [ih, h1]
    cases hp : P n <;> cases hq : Q n <;> simp [hp, hq] at h2 ⊢ <;> omega
theorem mkN_tb {s n : Nat} (hn : n ≤ 7) (hs : s < 2 ^ n) : mkN (fun i => s.testBit i) n = s := by
  have h7 := pow7 hn
  have hl := mkN_lt (fun i => s.testBit i) n
  have e : nI s = nI (mkN (fun i => s.testBit i) n) := by
    rw [← mkb_N _ hn]
    apply b_ext
    intro i hi
    rw [bt_nIt hi, bt_mkb (by omega) hi]
    by_cases q : i < n
    · rw [decide_eq_true q, Bool.true_and]
    · rw [tb_hi hs (by omega)]; simp
  rw [nI_eq (by omega) (by omega)] at e
  exact e.symm
section FA
variable {F : FL}
/-- who isn't in a set of those who are there: the difference of the numbers -/
theorem compl (hn : f_n F ≤ 7) {s : Nat} (hs : subB F s = true) (hs2 : s < 2 ^ f_n F) : pN F - s = mkN (fun i => !bt (f_o F) i && !s.testBit i) (f_n F) := by
  have e := mkN_add (S := fun i => !bt (f_o F) i) (P := fun i => s.testBit i) (Q := fun i => !bt (f_o F) i && !s.testBit i) (n := f_n F) (fun i hi => by
    cases q : s.testBit i
    · simp
    · have := subB_bit hn (show i < 32 by omega) hs (by rw [bt_nIt (by omega)]; exact q)
      simp [this.2])
  rw [mkN_tb hn hs2] at e
  unfold pN
  omega
theorem compl_bit (hn : f_n F ≤ 7) {s i : Nat} (hs : subB F s = true) (hs2 : s < 2 ^ f_n F) (hi : i < 32) : bt (nI (pN F - s)) i = (decide (i < f_n F) && (!bt (f_o F) i && !s.testBit i)) := by
  rw [compl hn hs hs2, ← mkb_N _ hn, bt_mkb (by omega) hi]
theorem compl_sub (hn : f_n F ≤ 7) {s : Nat} (hs : subB F s = true) (hs2 : s < 2 ^ f_n F) : subB F (pN F - s) = true := by
  refine decide_eq_true ?_
  apply b_ext
  intro i hi
  rw [b_and, bt_not _ hi, b_0, bt_pre hn hi, compl_bit hn hs hs2 hi]
  by_cases q : i < f_n F <;> cases bt (f_o F) i <;> simp [q]
theorem compl_iff (hn : f_n F ≤ 7) {s : Nat} (hs : s ≤ pN F) : subB F (pN F - s) = subB F s := by
  have hp := pN_lt F
  cases q : subB F s
  · cases q2 : subB F (pN F - s)
    · rfl
    · have := compl_sub hn q2 (by omega)
      rw [show pN F - (pN F - s) = s by omega, q] at this
      exact absurd this (by decide)
  · exact compl_sub hn q (by omega)
def bB (F : FL) (s : Nat) : Int32 := gnS (fun i => ldF F i * f_p F i) (f_n F) s
theorem compl_B (hn : f_n F ≤ 7) {s : Nat} (hs : subB F s = true) (hs2 : s < 2 ^ f_n F) : momA F + -bB F s = bB F (pN F - s) := by
  have e : bB F (pN F - s) + bB F s = momA F := by
    unfold bB gnS momA
    rw [sm_add]
    refine sm_congr (fun i hi => ?_)
    rw [compl_bit hn hs hs2 (by omega), decide_eq_true hi, bt_nIt (by omega)]
    cases q : s.testBit i
    · cases bt (f_o F) i <;> simp
    · have := subB_bit hn (show i < 32 by omega) hs (by rw [bt_nIt (by omega)]; exact q)
      simp [this.2]
  rw [← e, Int32.add_assoc, Int32.add_right_neg, Int32.add_zero]
def fN' (F : FL) (s : Nat) : Nat := cN (fun i => s.testBit i) (f_n F)
theorem compl_f (hn : f_n F ≤ 7) {s : Nat} (hs : subB F s = true) (hs2 : s < 2 ^ f_n F) : fN' F s + fN' F (pN F - s) = prN F := by
  unfold fN' prN
  refine (cN_add (fun i hi => ?_)).symm
  have hb := compl_bit hn hs hs2 (show i < 32 by omega)
  rw [bt_nIt (by omega), decide_eq_true hi, Bool.true_and] at hb
  rw [hb]
  cases q : s.testBit i
  · simp
  · have := subB_bit hn (show i < 32 by omega) hs (by rw [bt_nIt (by omega)]; exact q)
    simp [this.2]
/-- what a set of those who stay adds -/
def tM (F : FL) (p s : Nat) : Nat := if subB F s && decide (¬ bB F s ≤ 0) then (10 - p) ^ fN' F s * p ^ (prN F - fN' F s) else 0
def tC (F : FL) (p s : Nat) : Nat := if subB F s && decide (¬ momA F + -bB F s ≤ 0) then p ^ fN' F s * (10 - p) ^ (prN F - fN' F s) else 0
theorem tC_M (hn : f_n F ≤ 7) {p s : Nat} (hs : s ≤ pN F) : tC F p s = tM F p (pN F - s) := by
  have hp := pN_lt F
  unfold tC tM
  rw [compl_iff hn hs]
  cases q : subB F s
  · simp
  · rw [compl_B hn q (by omega)]
    have hf := compl_f hn q (by omega)
    rw [show prN F - fN' F s = fN' F (pN F - s) by omega, show prN F - fN' F (pN F - s) = fN' F s by omega, Nat.mul_comm]
theorem fai_up (hn : f_n F ≤ 7) (p : Nat) : nS (tC F p) (pN F + 1) = nS (tM F p) (pN F + 1) := by
  rw [← nS_rev (tM F p) (pN F)]
  exact nS_congr (fun s hs => tC_M hn (by omega))
theorem tC_le (hn : f_n F ≤ 7) {p s : Nat} (hp : p ≤ 10) (hs : s ≤ pN F) : tC F p s ≤ 10000000 := by
  have hpl := pN_lt F
  unfold tC
  by_cases q : (subB F s && decide (¬ momA F + -bB F s ≤ 0)) = true
  · rw [if_pos q]
    have hsb : subB F s = true := by simp only [Bool.and_eq_true] at q; exact q.1
    have hf := compl_f hn hsb (by omega)
    have h1 : p ^ fN' F s ≤ 10 ^ fN' F s := Nat.pow_le_pow_left hp _
    have h2 : (10 - p) ^ (prN F - fN' F s) ≤ 10 ^ (prN F - fN' F s) := Nat.pow_le_pow_left (by omega) _
    have h3 := Nat.mul_le_mul h1 h2
    rw [← Nat.pow_add, show fN' F s + (prN F - fN' F s) = prN F by omega] at h3
    have h4 : 10 ^ prN F ≤ 10 ^ 7 := Nat.pow_le_pow_right (by omega) (by have := prN_le F; omega)
    have h5 : (10 : Nat) ^ 7 = 10000000 := by decide
    omega
  · rw [if_neg q]; omega
end FA
section FB
variable {σ : ST} {F : FL} {R : List Int64} {μ : Mm}
theorem C_raised (a t : Nat) (ha : a < 2 ^ 31) (ht : t < 2 ^ 31) : p_X11_raised (nI a) (nI t) μ ∧ v_X11_raised (nI a) (nI t) μ = lN (a ^ t) := by
  refine lpF (f := fun s : Int32 × Int32 × Int64 × Int32 => bd_X11_raised_5 μ s.1 s.2.1 s.2.2.1 s.2.2.2) (sd := fun s : Int32 × Int32 × Int64 × Int32 => sd_X11_raised_5 μ s.1 s.2.1 s.2.2.1 s.2.2.2) (dd := fun _ : Int32 × Int32 × Int64 × Int32 => 0) (fun i => (nI a, nI t, lN (a ^ i), nI i)) t (r := lN (a ^ t)) (by omega) (fun i hi => ⟨trivial, ?_⟩) ⟨trivial, ?_⟩
  · dsimp only
    unfold bd_X11_raised_5
    rw [if_neg (nI_ge hi (by omega)), nI_1, nI_l ha, lN_mul, Nat.pow_succ]
  · dsimp only
    unfold bd_X11_raised_5
    rw [if_pos (nI_le (Nat.le_refl _) (by omega))]
theorem C_gain_f (hc : CS σ μ) (a b c : Int32) : whP (fun s : Int32 × Int32 × Int32 × Int32 × Mm => bd_X11_faints_43 s.1 s.2.1 s.2.2.1 s.2.2.2.1 s.2.2.2.2) (fun s : Int32 × Int32 × Int32 × Int32 × Mm => sd_X11_faints_43 s.1 s.2.1 s.2.2.1 s.2.2.2.1 s.2.2.2.2) FU (a, b, c, 0, μ) ∧ (fun z : Int32 × Int32 × Int32 × Mm => z.1 = a ∧ z.2.1 = b ∧ z.2.2.1 = c ∧ Fr [34] μ z.2.2.2 ∧ ∀ i, i < f_n (s_F σ) → z.2.2.2.1 34 i = -ldF (s_F σ) i * f_p (s_F σ) i) (whl (fun s : Int32 × Int32 × Int32 × Int32 × Mm => bd_X11_faints_43 s.1 s.2.1 s.2.2.1 s.2.2.2.1 s.2.2.2.2) (fun s : Int32 × Int32 × Int32 × Int32 × Mm => (0, 0, 0, s.2.2.2.2)) FU (a, b, c, 0, μ)) := by
  have hn := hc.F.1
  refine lpI (f := fun s : Int32 × Int32 × Int32 × Int32 × Mm => bd_X11_faints_43 s.1 s.2.1 s.2.2.1 s.2.2.2.1 s.2.2.2.2) (sd := fun s : Int32 × Int32 × Int32 × Int32 × Mm => sd_X11_faints_43 s.1 s.2.1 s.2.2.1 s.2.2.2.1 s.2.2.2.2) (dd := fun s : Int32 × Int32 × Int32 × Int32 × Mm => (0, 0, 0, s.2.2.2.2))
    (I := fun i s => i ≤ f_n (s_F σ) ∧ ∃ μ', s = (a, b, c, nI i, μ') ∧ Fr [34] μ μ' ∧ ∀ j, j < i → μ'.1 34 j = -ldF (s_F σ) j * f_p (s_F σ) j)
    (R := fun z : Int32 × Int32 × Int32 × Mm => z.1 = a ∧ z.2.1 = b ∧ z.2.2.1 = c ∧ Fr [34] μ z.2.2.2 ∧ ∀ i, i < f_n (s_F σ) → z.2.2.2.1 34 i = -ldF (s_F σ) i * f_p (s_F σ) i) (f_n (s_F σ)) (by omega) ?_ (s0 := (a, b, c, 0, μ)) ⟨Nat.zero_le _, μ, rfl, Fr.rfl, fun j hj => absurd hj (by omega)⟩
  rintro i _ hi ⟨hi2, μ', rfl, hf, hg⟩
  dsimp only
  have hc' : CS σ μ' := hc.fr hf (by decide)
  unfold sd_X11_faints_43 bd_X11_faints_43
  rw [hc'.F.sz, nI_1]
  simp only [nI_leI (show f_n (s_F σ) < 2 ^ 31 by omega) (show i < 2 ^ 31 by omega), nI_clamp (show i < 2 ^ 31 by omega)]
  rcases Nat.lt_or_ge i (f_n (s_F σ)) with z | z
  · rw [if_neg (show ¬ f_n (s_F σ) ≤ i by omega), (C_load hc'.F z).2, show μ'.1 4 i = f_p (s_F σ) i from hc'.F.p (by omega)]
    refine ⟨fun _ => ⟨(C_load hc'.F z).1, vp_in_nI (by omega) (by omega), vp_in_nI (by omega) (by omega)⟩, .inl ⟨_, rfl, z, by omega, _, rfl, hf.up (by simp), fun j hj => ?_⟩⟩
    rw [rI]
    by_cases e : j = i
    · subst e; rw [if_pos ⟨rfl, rfl⟩]
    · rw [if_neg (by omega)]; exact hg j (by omega)
  · have : i = f_n (s_F σ) := by omega
    subst this
    rw [if_pos (Nat.le_refl _)]
    exact ⟨fun y => absurd (Nat.le_refl _) y, .inr ⟨_, rfl, rfl, rfl, rfl, hf, hg⟩⟩
theorem t10 : (10 : Int32).toInt = 10 := by decide +kernel
theorem s10 : (10 : Int64).toInt = 10 := by decide +kernel
theorem C_faints (ok : OK σ) (hc : CSR σ R μ) {p : Nat} (hp : p ≤ 10) : p_X11_faints (nI p) μ ∧ CSR σ (frT (nS (tM (s_F σ) p) (pN (s_F σ) + 1)) (10 ^ prN (s_F σ))) (e_X11_faints (nI p) μ) := by
  have hn := ok.g.1
  have hpl := pN_lt (s_F σ)
  have h7 := pow7 hn
  have hpr := prN_le (s_F σ)
  unfold p_X11_faints e_X11_faints
  have hin : inB (nI p) 0 10 = true := by unfold inB; rw [nI_toInt (by omega)]; exact decide_eq_true (by omega)
  rw [ite_in t0 t10, hin]
  simp only [forall_eq, if_true]
  obtain ⟨p1, v1⟩ := C_moment hc.1.F
  rw [v1, C_present hc.1.F, bc_pre hn]
  have f1 := fr_X8_start (preA (s_F σ)) (momA (s_F σ)) μ
  obtain ⟨s1, s2⟩ := start_33 (preA (s_F σ)) (momA (s_F σ)) μ
  have c1 : CSR σ R (e_X8_start (preA (s_F σ)) (momA (s_F σ)) μ) := ⟨hc.1.fr f1 (by decide), hc.2.fr f1 (by decide)⟩
  generalize e_X8_start (preA (s_F σ)) (momA (s_F σ)) μ = μ2 at s1 s2 c1 ⊢
  obtain ⟨k1, k2, k3, k4, k5, k6⟩ := C_gain_f c1.1 (nI p) (preA (s_F σ)) (nI (prN (s_F σ)))
  generalize whl (fun s : Int32 × Int32 × Int32 × Int32 × Mm => bd_X11_faints_43 s.1 s.2.1 s.2.2.1 s.2.2.2.1 s.2.2.2.2) _ FU _ = z at k2 k3 k4 k5 k6 ⊢
  rw [k2, k3, k4]
  have c2 : CSR σ R z.2.2.2 := ⟨c1.1.fr k5 (by decide), c1.2.fr k5 (by decide)⟩
  have s2' : z.2.2.2.1 33 2 = momA (s_F σ) := by rw [k5.1 33 (by simp)]; exact s2
  generalize z.2.2.2 = μ3 at k6 c2 s2' ⊢
  have key := lpF (f := fun s : Int32 × Int32 × Int32 × Int64 × Int32 => bd_X11_faints_98 (r6.2.2.2) s.1 s.2.1 s.2.2.1 s.2.2.2.1 s.2.2.2.2) (sd := fun s : Int32 × Int32 × Int32 × Int64 × Int32 => sd_X11_faints_98 (r6.2.2.2) s.1 s.2.1 s.2.2.1 s.2.2.2.1 s.2.2.2.2) (dd := fun _ : Int32 × Int32 × Int32 × Int64 × Int32 => (0, 0)) 
    (fun s => (nI p, preA (s_F σ), nI (prN (s_F σ)), lN (nS (tC (s_F σ) p) s), nI s)) (pN (s_F σ) + 1) (r := (nI (prN (s_F σ)), lN (nS (tC (s_F σ) p) (pN (s_F σ) + 1)))) (by omega) (fun s hs => ⟨?_, ?_⟩) ⟨?_, ?_⟩
  · sorry
  all_goals sorry
end FB

/-! walks: the class -/
def ldN (F : FL) (i : Nat) : Nat := if i < f_n F then (ldF F i).toInt.toNat else 0
def rmN (F : FL) (x : Int32) (i : Nat) : Nat := if i < f_n F ∧ bt x i = true then (9 - (f_p F i).toInt).toNat else 0
theorem ldN_I {F : FL} (g : RgF F) {i : Nat} (hi : i < f_n F) : nI (ldN F i) = ldF F i ∧ ldN F i ≤ 18 ∧ 1 ≤ ldN F i := by
  have hn := g.1
  have h := ldF_rg g (i := i) (by omega)
  have h1 := g.2.2.1 i hi
  have h2 := (g.2.1 i (by omega)).2.2.2
  unfold ldN
  rw [if_pos hi]
  refine ⟨?_, by omega, by omega⟩
  rw [fa_eq, nI_toInt (by omega)]; omega
theorem ldN_le {F : FL} (g : RgF F) (i : Nat) : ldN F i ≤ 18 := by
  by_cases q : i < f_n F
  · exact (ldN_I g q).2.1
  · unfold ldN; rw [if_neg q]; omega
theorem rmN_le {F : FL} (g : RgF F) {x : Int32} (i : Nat) : rmN F x i ≤ 18 := by
  have hn := g.1
  unfold rmN
  by_cases q : i < f_n F ∧ bt x i = true
  · have := (g.2.1 i (by omega)).2.2.1
    rw [if_pos q]; omega
  · rw [if_neg q]; omega
theorem rmN_I {F : FL} (g : RgF F) {x : Int32} {i : Nat} (hi : i < f_n F) (hb : bt x i = true) : 9 - f_p F i = nI (rmN F x i) := by
  have hn := g.1
  have h := (g.2.1 i (by omega)).2.2.1
  unfold rmN
  rw [if_pos ⟨hi, hb⟩, fa_eq, nI_toInt (by omega), toInt_subS (by rw [t9]; omega), t9]
  omega
theorem hasF_out {F : FL} (hn : f_n F ≤ 7) {i : Nat} (hi : f_n F ≤ i) (h2 : i < 1000) : hasF F (nI i) = false := by
  refine decide_eq_false (fun y => ?_)
  have := (nI_ltI (by omega) (by omega)).mp y.2
  omega
/-- the first place where it does, from above -/
def fdn (P : Nat → Bool) : Nat → Nat
  | 0 => 0
  | x + 1 => if P (x + 1) then x + 1 else fdn P x
theorem fdn_le (P : Nat → Bool) : ∀ x, fdn P x ≤ x
  | 0 => Nat.le_refl _
  | x + 1 => by
    have := fdn_le P x
    unfold fdn
    split <;> omega
theorem fdn_ok {P : Nat → Bool} : ∀ {x : Nat}, (∃ y, y ≤ x ∧ P y = true) → P (fdn P x) = true
  | 0, h => by
    obtain ⟨y, h1, h2⟩ := h
    rw [show y = 0 by omega] at h2
    exact h2
  | x + 1, h => by
    unfold fdn
    by_cases q : P (x + 1) = true
    · rw [if_pos q]; exact q
    · rw [if_neg q]
      obtain ⟨y, h1, h2⟩ := h
      refine fdn_ok ⟨y, ?_, h2⟩
      by_cases e : y = x + 1
      · rw [e] at h2; exact absurd h2 q
      · omega
theorem fdn_congr {P Q : Nat → Bool} : ∀ {x : Nat}, (∀ y, y ≤ x → P y = Q y) → fdn P x = fdn Q x
  | 0, _ => rfl
  | x + 1, h => by
    unfold fdn
    rw [h (x + 1) (Nat.le_refl _), fdn_congr (fun y hy => h y (by omega))]
section WA
variable {σ : ST} {R : List Int64} {μ : Mm} {rm ld : Nat → Nat}
theorem C_setOut (ok : OK σ) (hc : CSR σ R μ) (x : Int32) : p_X7_setOut 1 x μ ∧ (∀ i, i < 7 → (e_X7_setOut 1 x μ).1 36 i = nI (ldN (s_F σ) i) ∧ (bt x i = true → i < f_n (s_F σ)) → (e_X7_setOut 1 x μ).1 37 i = nI (rmN (s_F σ) x i)) ∧ ∀ i, i < 7 → (e_X7_setOut 1 x μ).1 36 i = nI (ldN (s_F σ) i) := by
  have hn := ok.g.1
  have key := lpI (f := fun s : Int32 × Int32 × Mm => bd_X7_setOut_2 1 s.1 s.2.1 s.2.2) (sd := fun s : Int32 × Int32 × Mm => sd_X7_setOut_2 1 s.1 s.2.1 s.2.2) (dd := fun s : Int32 × Int32 × Mm => s.2.2) (I := fun i s => i ≤ 7 ∧ ∃ μ', s = (x, nI i, μ') ∧ CSR σ R μ' ∧ ∀ j, j < i → μ'.1 36 j = nI (ldN (s_F σ) j) ∧ ((bt x j = true → j < f_n (s_F σ)) → μ'.1 37 j = nI (rmN (s_F σ) x j)))
    (R := fun z : Mm => ∀ j, j < 7 → z.1 36 j = nI (ldN (s_F σ) j) ∧ ((bt x j = true → j < f_n (s_F σ)) → z.1 37 j = nI (rmN (s_F σ) x j))) 7 (by omega) ?_ (s0 := (x, 0, μ)) ⟨by omega, μ, rfl, hc, fun j hj => absurd hj (by omega)⟩
  · exact ⟨key.1, fun i hi h => (key.2 i hi).2 h.2, fun i hi => (key.2 i hi).1⟩
  · rintro i _ hi ⟨hi2, μ', rfl, ht, hg⟩
    dsimp only
    unfold sd_X7_setOut_2 bd_X7_setOut_2
    have g7 : ((7 : Int32) ≤ nI i) ↔ 7 ≤ i := nI_leI (a := 7) (by omega) (by omega)
    simp only [g7, nI_clamp (show i < 2 ^ 31 by omega), forall_eq, nI_1]
    rcases Nat.lt_or_ge i 7 with z | z
    · have hv : p_X1_load 1 (nI i) μ' ∧ v_X1_load 1 (nI i) μ' = nI (ldN (s_F σ) i) := by
        by_cases q : i < f_n (s_F σ)
        · obtain ⟨a1, a2⟩ := C_load ht.1.F q
          exact ⟨a1, by rw [a2, (ldN_I ok.g q).1]⟩
        · unfold p_X1_load v_X1_load ldN
          rw [C_has ht.1.F, hasF_out hn (by omega) (by omega), if_neg q]
          exact ⟨fun y => absurd rfl y, rfl⟩
      rw [if_neg (show ¬ 7 ≤ i by omega), hv.2]
      have f1 : Fr [36] μ' (upI μ' 36 i (nI (ldN (s_F σ) i))) := Fr.rfl.up (by simp)
      have ht2 : CSR σ R (upI μ' 36 i (nI (ldN (s_F σ) i))) := ⟨ht.1.fr f1 (by decide), ht.2.fr f1 (by decide)⟩
      have h36 : ∀ j, j ≤ i → (upI μ' 36 i (nI (ldN (s_F σ) i))).1 36 j = nI (ldN (s_F σ) j) := fun j hj => by
        rw [rI]
        by_cases e : j = i
        · subst e; rw [if_pos ⟨rfl, rfl⟩]
        · rw [if_neg (by omega)]; exact (hg j (by omega)).1
      have h37 : (upI μ' 36 i (nI (ldN (s_F σ) i))).1 37 = μ'.1 37 := by rw [rIc (by omega)]
      generalize upI μ' 36 i (nI (ldN (s_F σ) i)) = μ4 at ht2 h36 h37 ⊢
      rw [isIn_b _ (by omega)]
      simp only [one0]
      have hp : p_X1_placeOf 1 (nI i) μ4 := by
        by_cases q : i < f_n (s_F σ)
        · exact (C_placeOf ht2.1.F q).1
        · unfold p_X1_placeOf
          rw [C_has ht2.1.F, hasF_out hn (by omega) (by omega)]
          exact fun y => absurd rfl y
      have hval : (bt x i = true → i < f_n (s_F σ)) → (if ¬ bt x i = true then 0 else 9 - v_X1_placeOf 1 (nI i) μ4) = nI (rmN (s_F σ) x i) := fun hb => by
        by_cases q : bt x i = true
        · rw [if_neg (fun y => y q), (C_placeOf ht2.1.F (hb q)).2, rmN_I ok.g (hb q) q]
        · rw [if_pos q]
          unfold rmN
          rw [if_neg (fun y => q y.2)]; rfl
      generalize (if ¬ bt x i = true then 0 else 9 - v_X1_placeOf 1 (nI i) μ4) = vv at hval ⊢
      have f2 : Fr [37] μ4 (upI μ4 37 i vv) := Fr.rfl.up (by simp)
      refine ⟨fun _ => ⟨hv.1, vp_in_nI (by omega) (by omega), fun _ => hp, vp_in_nI (by omega) (by omega)⟩, .inl ⟨_, rfl, z, z, _, rfl, ⟨ht2.1.fr f2 (by decide), ht2.2.fr f2 (by decide)⟩, fun j hj => ⟨?_, fun hb => ?_⟩⟩⟩
      · rw [rI, if_neg (by omega)]; exact h36 j (by omega)
      · rw [rI]
        by_cases e : j = i
        · subst e; rw [if_pos ⟨rfl, rfl⟩]; exact hval hb
        · rw [if_neg (by omega), h37]; exact (hg j (by omega)).2 hb
    · have : i = 7 := by omega
      subst this
      rw [if_pos z]
      exact ⟨fun y => absurd z y, .inr ⟨_, rfl, hg⟩⟩
theorem Ms_le (rm ld : Nat → Nat) (i s : Nat) : Ms rm ld i s ≤ 18 * s := nS_le (fun h _ => Nat.min_le_left _ _)
def qW (rm ld : Nat → Nat) (m : Int32) (s : Nat) : Bool := decide (0 < m.toInt + (Ms rm ld 0 s : Int))
theorem C_fewest (h : StC rm ld μ) {m : Int32} (hm : -5000 ≤ m.toInt ∧ m.toInt ≤ 5000) : p_X7_fewest (1 - m) μ ∧ v_X7_fewest (1 - m) μ = fres (ff (qW rm ld m) 0 127) := by
  have e1 : (1 - m).toInt = 1 - m.toInt := by rw [toInt_subS (by rw [t1]; omega), t1]
  refine lpI (f := fun s : Int32 × Int32 => bd_X7_fewest_2 μ s.1 s.2) (sd := fun s : Int32 × Int32 => sd_X7_fewest_2 μ s.1 s.2) (dd := fun _ : Int32 × Int32 => 0) (I := fun i s => i ≤ 127 ∧ s = (1 - m, nI i) ∧ ff (qW rm ld m) i (127 - i) = ff (qW rm ld m) 0 127) (R := fun z => z = fres (ff (qW rm ld m) 0 127)) 127 (by omega) ?_ ⟨by omega, rfl, rfl⟩
  rintro i _ hi ⟨hi2, rfl, hff⟩
  dsimp only
  unfold sd_X7_fewest_2 bd_X7_fewest_2
  have g : ((126 : Int32) < nI i) ↔ 126 < i := nI_ltI (a := 126) (by omega) (by omega)
  simp only [g, nI_1]
  rcases Nat.lt_or_ge 126 i with z | z
  · have : i = 127 := by omega
    subst this
    rw [if_pos z, ← hff]
    exact ⟨fun y => absurd z y, .inr ⟨_, rfl, rfl⟩⟩
  · obtain ⟨w1, w2⟩ := C_most7 h (i := 0) (s := i) (by omega) (by omega)
    have e0 : nI 0 = 0 := rfl
    rw [e0] at w1 w2
    have hM := Ms_le rm ld 0 i
    rw [if_neg (show ¬ 126 < i by omega), w2]
    rw [show 127 - i = (126 - i) + 1 by omega] at hff
    refine ⟨fun _ => w1, ?_⟩
    by_cases q : nI (Ms rm ld 0 i) < 1 - m
    · rw [if_pos q]
      have q' : qW rm ld m i = false := by
        rw [fa_lt, e1, nI_toInt (by omega)] at q
        exact decide_eq_false (by omega)
      rw [ff_n (P := qW rm ld m) q'] at hff
      exact .inl ⟨_, rfl, by omega, by omega, rfl, by rw [show 127 - (i + 1) = 126 - i by omega]; exact hff⟩
    · rw [if_neg q]
      have q' : qW rm ld m i = true := by
        rw [fa_lt, e1, nI_toInt (by omega)] at q
        exact decide_eq_true (by omega)
      rw [ff_y (P := qW rm ld m) q'] at hff
      rw [← hff]
      exact .inr ⟨_, rfl, rfl⟩
def pW (rm ld : Nat → Nat) (m : Int32) (i left x : Nat) : Bool := decide (0 < m.toInt + (x * ld i + Ms rm ld (i + 1) (left - x) : Nat))
theorem C_farthest (h : StC rm ld μ) {m : Int32} (hm : -5000 ≤ m.toInt ∧ m.toInt ≤ 5000) {i left : Nat} (hi : i < 7) (hl : left ≤ 126) : p_X7_farthestOf (nI i) (nI left) (1 - m) μ ∧ v_X7_farthestOf (nI i) (nI left) (1 - m) μ = nI (fdn (pW rm ld m i left) (min left (rm i))) := by
  have e1 : (1 - m).toInt = 1 - m.toInt := by rw [toInt_subS (by rw [t1]; omega), t1]
  obtain ⟨a1, a2, a3, a4⟩ := h i hi
  unfold p_X7_farthestOf v_X7_farthestOf
  have g0 : ¬ (nI i < 0) := nI_pos (by omega)
  have g7 : nI i < 7 := (nI_ltI (b := 7) (by omega) (by omega)).mpr hi
  rw [if_neg g0, if_pos g7, nI_clamp (by omega), a2]
  have ef : (if nI (rm i) < nI left then nI (rm i) else nI left) = nI (min left (rm i)) := by
    simp only [nI_ltI (show rm i < 2 ^ 31 by omega) (show left < 2 ^ 31 by omega)]
    by_cases y : rm i < left
    · rw [if_pos y]; congr 1; omega
    · rw [if_neg y]; congr 1; omega
  rw [ef]
  have key := lpI (f := fun s : Int32 × Int32 × Int32 × Int32 => bd_X7_farthestOf_24 μ s.1 s.2.1 s.2.2.1 s.2.2.2) (sd := fun s : Int32 × Int32 × Int32 × Int32 => sd_X7_farthestOf_24 μ s.1 s.2.1 s.2.2.1 s.2.2.2) (dd := fun _ : Int32 × Int32 × Int32 × Int32 => 0) (I := fun t s => t ≤ min left (rm i) ∧ s = (nI i, nI left, 1 - m, nI (min left (rm i) - t)) ∧ fdn (pW rm ld m i left) (min left (rm i) - t) = fdn (pW rm ld m i left) (min left (rm i)))
    (R := fun z => z = nI (fdn (pW rm ld m i left) (min left (rm i)))) (min left (rm i)) (by omega) ?_ (s0 := (nI i, nI left, 1 - m, nI (min left (rm i)))) ⟨Nat.zero_le _, rfl, rfl⟩
  · exact ⟨fun _ _ => ⟨vp_in_nI (by omega) (by omega), key.1⟩, key.2⟩
  · rintro t _ ht ⟨ht2, rfl, hf⟩
    dsimp only
    unfold sd_X7_farthestOf_24 bd_X7_farthestOf_24
    rw [nI_clamp (by omega), a1, nI_1]
    rcases Nat.lt_or_ge t (min left (rm i)) with z | z
    · obtain ⟨x, hx⟩ : ∃ x, min left (rm i) - t = x + 1 := ⟨min left (rm i) - t - 1, by omega⟩
      rw [hx] at hf ⊢
      obtain ⟨w1, w2⟩ := C_most7 h (i := i + 1) (s := left - (x + 1)) (by omega) (by omega)
      have hM := Ms_le rm ld (i + 1) (left - (x + 1))
      have hmul : (x + 1) * ld i ≤ 18 * 18 := Nat.mul_le_mul (by omega) a3
      rw [if_neg (nI_nle (by omega) (by omega)), nI_sub (by omega), w2, nI_mul, nI_add]
      refine ⟨fun _ => ⟨vp_in_nI (by omega) (by omega), w1⟩, ?_⟩
      have es : fdn (pW rm ld m i left) (x + 1) = if pW rm ld m i left (x + 1) then x + 1 else fdn (pW rm ld m i left) x := rfl
      rw [es] at hf
      by_cases q : nI ((x + 1) * ld i + Ms rm ld (i + 1) (left - (x + 1))) < 1 - m
      · rw [if_pos q]
        have q' : pW rm ld m i left (x + 1) = false := by
          rw [fa_lt, e1, nI_toInt (by omega)] at q
          exact decide_eq_false (by omega)
        rw [q'] at hf
        refine .inl ⟨_, rfl, z, z, ?_, ?_⟩
        · rw [show min left (rm i) - (t + 1) = x by omega, ← Int32.sub_eq_add_neg, show (1 : Int32) = nI 1 from rfl, nI_sub (by omega)]; rfl
        · rw [show min left (rm i) - (t + 1) = x by omega]; exact hf
      · rw [if_neg q]
        have q' : pW rm ld m i left (x + 1) = true := by
          rw [fa_lt, e1, nI_toInt (by omega)] at q
          exact decide_eq_true (by omega)
        rw [q'] at hf
        exact .inr ⟨_, rfl, by rw [← hf]; rfl⟩
    · have : min left (rm i) - t = 0 := by omega
      rw [this] at hf ⊢
      have e0 : nI 0 ≤ 0 := by decide
      rw [if_pos e0]
      exact ⟨fun y => absurd e0 y, .inr ⟨_, rfl, by rw [← hf]; rfl⟩⟩
end WA

/-! strides: the class's -/
def StC (rm ld : Nat → Nat) (μ : Mm) : Prop := ∀ i, i < 7 → μ.1 36 i = nI (ld i) ∧ μ.1 37 i = nI (rm i) ∧ ld i ≤ 18 ∧ rm i ≤ 18
section SC
variable {rm ld : Nat → Nat} {μ : Mm}
def Eq7 (rm ld : Nat → Nat) (H i j : Nat) : Nat := nS (fun m => if i ≤ m ∧ ld m = H then rm m else 0) j
theorem Rs_E (rm ld : Nat → Nat) (H i : Nat) : Rs rm ld H i = Rs rm ld (H + 1) i + Eq7 rm ld H i 7 := by
  unfold Rs Eq7
  rw [← nS_add]
  refine nS_congr (fun j _ => ?_)
  by_cases q : i ≤ j
  · rcases Nat.lt_trichotomy H (ld j) with z | z | z
    · rw [if_pos ⟨q, by omega⟩, if_pos ⟨q, by omega⟩, if_neg (by omega), Nat.add_zero]
    · rw [if_pos ⟨q, by omega⟩, if_neg (by omega), if_pos ⟨q, z.symm⟩, Nat.zero_add]
    · rw [if_neg (by omega), if_neg (by omega), if_neg (by omega)]
  · rw [if_neg (by omega), if_neg (by omega), if_neg (by omega)]
theorem C_most21 (h : StC rm ld μ) {i H : Nat} (hi : i ≤ 7) (hH : H ≤ 18) {left : Nat} (hl : left < 2 ^ 31) (sum : Nat) : whP (fun s : Int32 × Int32 × Int32 × Int32 × Int32 => bd_X7_most_21 μ s.1 s.2.1 s.2.2.1 s.2.2.2.1 s.2.2.2.2) (fun s : Int32 × Int32 × Int32 × Int32 × Int32 => sd_X7_most_21 μ s.1 s.2.1 s.2.2.1 s.2.2.2.1 s.2.2.2.2) FU (nI i, nI sum, nI left, nI H, nI i) ∧ whl (fun s : Int32 × Int32 × Int32 × Int32 × Int32 => bd_X7_most_21 μ s.1 s.2.1 s.2.2.1 s.2.2.2.1 s.2.2.2.2) (fun _ : Int32 × Int32 × Int32 × Int32 × Int32 => (0, 0, 0, 0)) FU (nI i, nI sum, nI left, nI H, nI i) = (nI i, nI (sum + min left (Eq7 rm ld H i 7) * H), nI (left - min left (Eq7 rm ld H i 7)), nI H) := by
  have h0 : Eq7 rm ld H i i = 0 := nS_zero (fun j hj => if_neg (by omega))
  refine lpI (f := fun s : Int32 × Int32 × Int32 × Int32 × Int32 => bd_X7_most_21 μ s.1 s.2.1 s.2.2.1 s.2.2.2.1 s.2.2.2.2) (I := fun t s => i + t ≤ 7 ∧ s = (nI i, nI (sum + min left (Eq7 rm ld H i (i + t)) * H), nI (left - min left (Eq7 rm ld H i (i + t))), nI H, nI (i + t)))
    (R := fun z => z = (nI i, nI (sum + min left (Eq7 rm ld H i 7) * H), nI (left - min left (Eq7 rm ld H i 7)), nI H)) (7 - i) (by omega) ?_ ⟨by omega, by rw [Nat.add_zero, h0, Nat.min_zero, Nat.zero_mul, Nat.add_zero, Nat.sub_zero]⟩
  rintro t _ ht ⟨hj, rfl⟩
  dsimp only
  unfold sd_X7_most_21 bd_X7_most_21
  have g7 : ((7 : Int32) ≤ nI (i + t)) ↔ 7 ≤ i + t := nI_leI (a := 7) (by omega) (by omega)
  simp only [g7, nI_clamp (show i + t < 2 ^ 31 by omega)]
  rcases Nat.lt_or_ge (i + t) 7 with z | z
  · obtain ⟨a1, a2, a3, a4⟩ := h (i + t) z
    rw [if_neg (show ¬ 7 ≤ i + t by omega), a1, a2, nI_1]
    simp only [nI_eq (show ld (i + t) < 2 ^ 31 by omega) (show H < 2 ^ 31 by omega), nI_ltI (show rm (i + t) < 2 ^ 31 by omega) (show left - min left (Eq7 rm ld H i (i + t)) < 2 ^ 31 by omega)]
    refine ⟨fun _ => ⟨vp_in_nI (by omega) (by omega), fun _ => vp_in_nI (by omega) (by omega)⟩, .inl ⟨_, rfl, by omega, by omega, ?_⟩⟩
    have es : Eq7 rm ld H i (i + (t + 1)) = Eq7 rm ld H i (i + t) + (if i ≤ i + t ∧ ld (i + t) = H then rm (i + t) else 0) := rfl
    rw [es]
    by_cases q : ld (i + t) = H
    · have ee : (if i ≤ i + t ∧ ld (i + t) = H then rm (i + t) else 0) = rm (i + t) := if_pos ⟨by omega, q⟩
      rw [if_pos q, if_pos q, ee]
      have ef : (if rm (i + t) < left - min left (Eq7 rm ld H i (i + t)) then nI (rm (i + t)) else nI (left - min left (Eq7 rm ld H i (i + t)))) = nI (min (rm (i + t)) (left - min left (Eq7 rm ld H i (i + t)))) := by
        by_cases y : rm (i + t) < left - min left (Eq7 rm ld H i (i + t))
        · rw [if_pos y]; congr 1; omega
        · rw [if_neg y]; congr 1; omega
      rw [ef, nI_mul, nI_add, nI_sub (by omega)]
      have e1 : min left (Eq7 rm ld H i (i + t) + rm (i + t)) = min left (Eq7 rm ld H i (i + t)) + min (rm (i + t)) (left - min left (Eq7 rm ld H i (i + t))) := by omega
      rw [e1, Nat.add_mul, ← Nat.add_assoc, Nat.sub_sub]
      rfl
    · rw [if_neg q, if_neg q, if_neg (by omega), Nat.add_zero (Eq7 rm ld H i (i + t))]
      rfl
  · have e7 : i + t = 7 := by omega
    rw [if_pos z, e7]
    exact ⟨fun y => absurd (Nat.le_refl _) y, .inr ⟨_, rfl, rfl⟩⟩
def Bs (rm ld : Nat → Nat) (i s H : Nat) : Nat := nS (fun h => if H ≤ h then min s (Rs rm ld (h + 1) i) else 0) 18
theorem Bs_step {i s H : Nat} (hH : H < 18) : Bs rm ld i s H = min s (Rs rm ld (H + 1) i) + Bs rm ld i s (H + 1) := by
  unfold Bs
  have e : nS (fun h => if H ≤ h then min s (Rs rm ld (h + 1) i) else 0) 18 = nS (fun h => (if h = H then min s (Rs rm ld (H + 1) i) else 0) + (if H + 1 ≤ h then min s (Rs rm ld (h + 1) i) else 0)) 18 := nS_congr (fun j hj => by
    rcases Nat.lt_trichotomy j H with z | z | z
    · rw [if_neg (by omega), if_neg (by omega), if_neg (by omega)]
    · subst z; rw [if_pos (Nat.le_refl _), if_pos rfl, if_neg (by omega)]; exact (Nat.add_zero _).symm
    · rw [if_pos (by omega), if_neg (by omega), if_pos (by omega), Nat.zero_add])
  rw [e, nS_add, nS_one hH (f := fun h => if h = H then min s (Rs rm ld (H + 1) i) else 0) (fun j hj hne => if_neg hne), if_pos rfl]
theorem C_most7 (h : StC rm ld μ) {i s : Nat} (hi : i ≤ 7) (hs : s < 2 ^ 31) : p_X7_most (nI i) (nI s) μ ∧ v_X7_most (nI i) (nI s) μ = nI (Ms rm ld i s) := by
  have h19 : Rs rm ld 19 i = 0 := nS_zero (fun j hj => by have := (h j hj).2.2.1; exact if_neg (by omega))
  have hB0 : Bs rm ld i s 18 = 0 := nS_zero (fun j hj => if_neg (by omega))
  have hBe : Bs rm ld i s 0 = Ms rm ld i s := nS_congr (fun j _ => if_pos (Nat.zero_le _))
  have ei : (if 0 < nI i then nI i else 0) = nI i := by
    by_cases q : (0 : Int32) < nI i
    · rw [if_pos q]
    · rw [if_neg q]
      have : ¬ (0 < i) := fun y => q ((nI_ltI (a := 0) (by omega) (by omega)).mpr y)
      rw [show i = 0 by omega]; rfl
  have step : ∀ H, H < 18 → sd_X7_most_9 μ (nI i) (nI (min s (Rs rm ld (H + 1 + 1) i) * (H + 1) + Bs rm ld i s (H + 1))) (nI (s - min s (Rs rm ld (H + 1 + 1) i))) (nI (H + 1)) ∧ bd_X7_most_9 μ (nI i) (nI (min s (Rs rm ld (H + 1 + 1) i) * (H + 1) + Bs rm ld i s (H + 1))) (nI (s - min s (Rs rm ld (H + 1 + 1) i))) (nI (H + 1)) = .inl (nI i, nI (min s (Rs rm ld (H + 1) i) * H + Bs rm ld i s H), nI (s - min s (Rs rm ld (H + 1) i)), nI H) := fun H hH => by
    obtain ⟨w1, w2⟩ := C_most21 h hi (H := H + 1) (by omega) (left := s - min s (Rs rm ld (H + 1 + 1) i)) (by omega) (min s (Rs rm ld (H + 1 + 1) i) * (H + 1) + Bs rm ld i s (H + 1))
    unfold sd_X7_most_9 bd_X7_most_9
    rw [if_neg (nI_nle (by omega) (by omega)), ei, w2]
    refine ⟨fun _ => w1, ?_⟩
    dsimp only
    have e1 : nI (H + 1) + (-1) = nI H := by
      rw [← Int32.sub_eq_add_neg, show (1 : Int32) = nI 1 from rfl, nI_sub (by omega)]; rfl
    have hR := Rs_E rm ld (H + 1) i
    have hB := Bs_step (rm := rm) (ld := ld) (i := i) (s := s) hH
    have d1 : min s (Rs rm ld (H + 1) i) = min s (Rs rm ld (H + 1 + 1) i) + min (s - min s (Rs rm ld (H + 1 + 1) i)) (Eq7 rm ld (H + 1) i 7) := by omega
    rw [e1, hB, d1]
    generalize min (s - min s (Rs rm ld (H + 1 + 1) i)) (Eq7 rm ld (H + 1) i 7) = d
    generalize min s (Rs rm ld (H + 1 + 1) i) = m
    have e2 : m * (H + 1) + Bs rm ld i s (H + 1) + d * (H + 1) = (m + d) * H + (m + d + Bs rm ld i s (H + 1)) := by
      rw [Nat.add_mul, Nat.mul_succ, Nat.mul_succ]; omega
    rw [e2, Nat.sub_sub]
  obtain ⟨k1, k2⟩ := lpF (f := fun s : Int32 × Int32 × Int32 × Int32 => bd_X7_most_9 μ s.1 s.2.1 s.2.2.1 s.2.2.2) (sd := fun s : Int32 × Int32 × Int32 × Int32 => sd_X7_most_9 μ s.1 s.2.1 s.2.2.1 s.2.2.2) (dd := fun _ : Int32 × Int32 × Int32 × Int32 => 0) (fun k => (nI i, nI (min s (Rs rm ld (18 - k + 1) i) * (18 - k) + Bs rm ld i s (18 - k)), nI (s - min s (Rs rm ld (18 - k + 1) i)), nI (18 - k))) 18 (r := nI (Ms rm ld i s)) (by omega) (fun k hk => by
      obtain ⟨H, hH, e⟩ : ∃ H, H < 18 ∧ 18 - k = H + 1 := ⟨17 - k, by omega, by omega⟩
      dsimp only
      rw [show 18 - (k + 1) = H by omega, e]
      exact step H hH) ⟨fun y => absurd (show nI (18 - 18) ≤ 0 by decide) y, by
      dsimp only
      unfold bd_X7_most_9
      rw [if_pos (show nI (18 - 18) ≤ 0 by decide), show 18 - 18 = 0 from rfl, Nat.mul_zero, Nat.zero_add, hBe]⟩
  rw [show 18 - 0 + 1 = 19 from rfl, show 18 - 0 = 18 from rfl, h19, hB0, Nat.min_zero, Nat.zero_mul, Nat.sub_zero] at k1 k2
  exact ⟨k1, k2⟩
end SC

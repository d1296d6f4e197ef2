/-! zeros before and behind -/
theorem nI_or (a b : Nat) : nI a ||| nI b = nI (a ||| b) := by
  apply b_ext
  intro i hi
  rw [b_or, bt_nIt hi, bt_nIt hi, bt_nIt hi, Nat.testBit_or]
theorem nI_p2 {k : Nat} (hk : k < 31) : (1 : Int32) <<< (nI k &&& 31) = nI (2 ^ k) := by
  apply b_ext
  intro i hi
  rw [bt_one k hk i hi, bt_nIt hi, Nat.testBit_two_pow]
  by_cases e : i = k
  · subst e; simp
  · simp [e, Ne.symm e]
theorem mkb_N2 (g : Nat → Bool) : ∀ {n : Nat}, n ≤ 31 → mkb g n = nI (mkN g n)
  | 0, _ => rfl
  | n + 1, h => by
    have hl := mkN_lt g n
    unfold mkb mkN
    rw [mkb_N2 g (by omega), nI_p2 (by omega)]
    cases g n
    · simp only [Bool.false_eq_true, if_false, Nat.add_zero]
      show nI _ ||| nI 0 = _
      rw [nI_or, Nat.or_zero]
    · simp only [if_true]
      rw [nI_or]
      have := Nat.two_pow_add_eq_or_of_lt hl 1
      rw [Nat.mul_one] at this
      rw [Nat.or_comm, ← this, Nat.add_comm]
theorem mkN_lo {P : Nat → Bool} {t : Nat} (ht : P t = true) (hl : ∀ j, j < t → P j = false) : ∀ n, t < n → ∃ m, mkN P n = 2 ^ (t + 1) * m + 2 ^ t := by
  have h0 : ∀ n, n ≤ t → mkN P n = 0 := by
    intro n
    induction n with
    | zero => intro _; rfl
    | succ n ih =>
      intro h
      unfold mkN
      rw [ih (by omega), hl n (by omega)]; rfl
  intro n
  induction n with
  | zero => intro h; omega
  | succ n ih =>
    intro h
    by_cases e : n = t
    · subst e
      refine ⟨0, ?_⟩
      unfold mkN
      rw [h0 n (by omega), ht]; simp
    · obtain ⟨m, hm⟩ := ih (by omega)
      refine ⟨m + (if P n then 2 ^ (n - t - 1) else 0), ?_⟩
      unfold mkN
      rw [hm]
      cases P n
      · simp
      · simp only [if_true]
        have : 2 ^ n = 2 ^ (t + 1) * 2 ^ (n - t - 1) := by rw [← Nat.pow_add]; congr 1; omega
        rw [this, Nat.mul_add]; omega
theorem mkN_hi {P : Nat → Bool} {u : Nat} (hu : P u = true) : ∀ n, u < n → (∀ j, u < j → j < n → P j = false) → 2 ^ u ≤ mkN P n ∧ mkN P n < 2 ^ (u + 1) := by
  intro n
  induction n with
  | zero => intro h; omega
  | succ n ih =>
    intro h hz
    by_cases e : n = u
    · subst e
      have hl := mkN_lt P (n + 1)
      refine ⟨?_, hl⟩
      unfold mkN
      rw [hu]; simp
    · have h1 := ih (by omega) (fun j a b => hz j a (by omega))
      unfold mkN
      rw [hz n (by omega) (by omega)]
      simpa using h1
theorem ntz_N {P : Nat → Bool} {t : Nat} (ht19 : t < 19) (ht : P t = true) (hl : ∀ j, j < t → P j = false) : v_J6_numberOfTrailingZeros_0f7a4 (mkb P 19) = nI t := by
  obtain ⟨m, hm⟩ := mkN_lo ht hl 19 ht19
  have hlt := mkN_lt P 19
  rw [mkb_N2 P (by omega)]
  have hp : 0 < 2 ^ t := Nat.pow_pos (by omega)
  have e : (nI (mkN P 19) ^^^ (-1)) &&& (nI (mkN P 19) - 1) = nI (2 ^ t - 1) := by
    rw [hm, show nI (2 ^ (t + 1) * m + 2 ^ t) - 1 = nI (2 ^ (t + 1) * m + (2 ^ t - 1)) by rw [show (1 : Int32) = nI 1 from rfl, nI_sub (by omega)]; congr 1; omega]
    apply b_ext
    intro i hi
    rw [b_and, bt_not _ hi, bt_nIt hi, bt_nIt hi, bt_nIt hi]
    have h2 : 2 ^ (t + 1) = 2 * 2 ^ t := by rw [Nat.pow_succ, Nat.mul_comm]
    rw [Nat.testBit_two_pow_mul_add _ (by omega), Nat.testBit_two_pow_mul_add _ (by omega), Nat.testBit_two_pow_sub_one, Nat.testBit_two_pow]
    by_cases q : i < t + 1
    · rw [if_pos q, if_pos q]
      by_cases q2 : i = t
      · subst q2; simp
      · simp [show i < t by omega, Ne.symm q2]
    · rw [if_neg q, if_neg q]; simp [show ¬ i < t by omega]
  unfold v_J6_numberOfTrailingZeros_0f7a4
  rw [e]
  clear e hm hlt hl ht hp
  revert t
  decide +kernel
theorem shrU (s : Nat) (hs : s < 2 ^ 31) : ∀ c, c < 17 → (Int32.toUInt32 (nI s) >>> (Int32.toUInt32 (nI c) &&& Int32.toUInt32 31)).toInt32 = nI (s / 2 ^ c) := by
  intro c hc
  have e : (Int32.toUInt32 (nI c) &&& Int32.toUInt32 31) = UInt32.ofNat c := by
    revert c; decide +kernel
  rw [e]
  apply Int32.toBitVec_inj.mp
  show (UInt32.ofNat (s) >>> UInt32.ofNat c).toBitVec = BitVec.ofNat 32 (s / 2 ^ c)
  apply BitVec.eq_of_toNat_eq
  rw [UInt32.toBitVec_shiftRight]
  simp only [UInt32.toBitVec_ofNat', BitVec.toNat_ushiftRight, BitVec.toNat_ofNat, BitVec.ushiftRight_eq', BitVec.toNat_umod]
  have h1 : s / 2 ^ c ≤ s := Nat.div_le_self _ _
  rw [Nat.shiftRight_eq_div_pow, Nat.mod_eq_of_lt (show s < 2 ^ 32 by omega), Nat.mod_eq_of_lt (show s / 2 ^ c < 2 ^ 32 by omega)]
  congr 2
  have h32 : c % 2 ^ 32 = c := Nat.mod_eq_of_lt (by omega)
  simp only [h32]
  show c % 32 = c
  omega
theorem nlz_step {x m : Int32} {y a B b : Nat} (hx : x = nI y) (hm : m = nI (31 - a)) (h0 : 0 < y) (hy : y < B * 2 ^ b) (hB : B ≤ 2 ^ b) (hb : b ≤ 16) (hab : a + b ≤ 31) (hy31 : y < 2 ^ 31) : ∃ y' a', (if x < nI (2 ^ b) then x else (Int32.toUInt32 x >>> (Int32.toUInt32 (nI b) &&& Int32.toUInt32 31)).toInt32) = nI y' ∧ (if x < nI (2 ^ b) then m else m + (-nI b)) = nI (31 - a') ∧ 0 < y' ∧ y' < 2 ^ b ∧ y' ≤ y ∧ (∀ s, 2 ^ a * y ≤ s → s < 2 ^ a * (y + 1) → 2 ^ a' * y' ≤ s ∧ s < 2 ^ a' * (y' + 1)) ∧ (a' = a ∨ a' = a + b) := by
  subst hx hm
  have hp : 2 ^ b ≤ 2 ^ 16 := Nat.pow_le_pow_right (by omega) hb
  have hp0 : 0 < 2 ^ b := Nat.pow_pos (by omega)
  by_cases q : y < 2 ^ b
  · have q' : nI y < nI (2 ^ b) := (nI_ltI hy31 (by omega)).mpr q
    rw [if_pos q', if_pos q']
    exact ⟨y, a, rfl, rfl, h0, q, Nat.le_refl _, fun s h1 h2 => ⟨h1, h2⟩, .inl rfl⟩
  · have q' : ¬ nI y < nI (2 ^ b) := fun z => q ((nI_ltI hy31 (by omega)).mp z)
    rw [if_neg q', if_neg q', shrU y hy31 b (by omega)]
    refine ⟨y / 2 ^ b, a + b, rfl, ?_, Nat.div_pos (by omega) hp0, ?_, Nat.div_le_self _ _, fun s h1 h2 => ?_, .inr rfl⟩
    · rw [← Int32.sub_eq_add_neg, nI_sub (by omega)]; congr 1; omega
    · exact Nat.lt_of_lt_of_le (Nat.div_lt_of_lt_mul (by rw [Nat.mul_comm]; exact hy)) hB
    · have d := Nat.div_add_mod y (2 ^ b)
      have d2 := Nat.mod_lt y hp0
      have e1 : 2 ^ (a + b) * (y / 2 ^ b) ≤ 2 ^ a * y := by
        rw [Nat.pow_add, Nat.mul_assoc]; exact Nat.mul_le_mul_left _ (by omega)
      have e2 : 2 ^ a * (y + 1) ≤ 2 ^ (a + b) * (y / 2 ^ b + 1) := by
        rw [Nat.pow_add, Nat.mul_assoc]; exact Nat.mul_le_mul_left _ (by rw [Nat.mul_add]; omega)
      omega
theorem nlz_N {P : Nat → Bool} {u : Nat} (hu19 : u < 19) (hu : P u = true) (hz : ∀ j, u < j → j < 19 → P j = false) : v_J6_numberOfLeadingZeros_0f7a4 (mkb P 19) = nI (31 - u) := by
  obtain ⟨b1, b2⟩ := mkN_hi hu 19 hu19 hz
  have hlt := mkN_lt P 19
  rw [mkb_N2 P (by omega)]
  generalize mkN P 19 = s at b1 b2 hlt ⊢
  have hp : 0 < 2 ^ u := Nat.pow_pos (by omega)
  unfold v_J6_numberOfLeadingZeros_0f7a4
  rw [if_pos (show (0 : Int32) < nI s from (nI_ltI (a := 0) (by omega) (by omega)).mpr (by omega))]
  obtain ⟨y1, a1, x1, m1, g1, k1, l1, i1, c1⟩ := nlz_step (x := nI s) (m := 31) (y := s) (a := 0) (B := 8) (b := 16) rfl rfl (by omega) (by omega) (by omega) (by omega) (by omega) (by omega)
  have x1' : (if nI s < 65536 then nI s else (Int32.toUInt32 (nI s) >>> (Int32.toUInt32 16 &&& Int32.toUInt32 31)).toInt32 : Int32) = nI y1 := x1
  have m1' : (if nI s < 65536 then 31 else (31 + (-16)) : Int32) = nI (31 - a1) := m1
  simp only [x1', m1']
  obtain ⟨y2, a2, x2, m2, g2, k2, l2, i2, c2⟩ := nlz_step (x := nI y1) (m := nI (31 - a1)) (y := y1) (a := a1) (B := 2 ^ 8) (b := 8) rfl rfl g1 (by omega) (by omega) (by omega) (by omega) (by omega)
  have x2' : (if nI y1 < 256 then nI y1 else (Int32.toUInt32 (nI y1) >>> (Int32.toUInt32 8 &&& Int32.toUInt32 31)).toInt32 : Int32) = nI y2 := x2
  have m2' : (if nI y1 < 256 then nI (31 - a1) else (nI (31 - a1) + (-8)) : Int32) = nI (31 - a2) := m2
  simp only [x2', m2']
  obtain ⟨y3, a3, x3, m3, g3, k3, l3, i3, c3⟩ := nlz_step (x := nI y2) (m := nI (31 - a2)) (y := y2) (a := a2) (B := 2 ^ 4) (b := 4) rfl rfl g2 (by omega) (by omega) (by omega) (by omega) (by omega)
  have x3' : (if nI y2 < 16 then nI y2 else (Int32.toUInt32 (nI y2) >>> (Int32.toUInt32 4 &&& Int32.toUInt32 31)).toInt32 : Int32) = nI y3 := x3
  have m3' : (if nI y2 < 16 then nI (31 - a2) else (nI (31 - a2) + (-4)) : Int32) = nI (31 - a3) := m3
  simp only [x3', m3']
  obtain ⟨y4, a4, x4, m4, g4, k4, l4, i4, c4⟩ := nlz_step (x := nI y3) (m := nI (31 - a3)) (y := y3) (a := a3) (B := 2 ^ 2) (b := 2) rfl rfl g3 (by omega) (by omega) (by omega) (by omega) (by omega)
  have x4' : (if nI y3 < 4 then nI y3 else (Int32.toUInt32 (nI y3) >>> (Int32.toUInt32 2 &&& Int32.toUInt32 31)).toInt32 : Int32) = nI y4 := x4
  have m4' : (if nI y3 < 4 then nI (31 - a3) else (nI (31 - a3) + (-2)) : Int32) = nI (31 - a4) := m4
  simp only [x4', m4']
  have x5 : (Int32.toUInt32 (nI y4) >>> (Int32.toUInt32 1 &&& Int32.toUInt32 31)).toInt32 = nI (y4 / 2 ^ 1) := shrU y4 (by omega) 1 (by omega)
  rw [x5, nI_sub (by omega)]
  have w1 := i1 s (by omega) (by omega)
  have w2 := i2 s w1.1 w1.2
  have w3 := i3 s w2.1 w2.2
  have w4 := i4 s w3.1 w3.2
  have un : ∀ u', 2 ^ u' ≤ s → s < 2 ^ (u' + 1) → u' = u := fun u' h1 h2 => by
    rcases Nat.lt_trichotomy u' u with q | q | q
    · have : 2 ^ (u' + 1) ≤ 2 ^ u := Nat.pow_le_pow_right (by omega) (by omega)
      omega
    · exact q
    · have : 2 ^ (u + 1) ≤ 2 ^ u' := Nat.pow_le_pow_right (by omega) (by omega)
      omega
  have hy : y4 = 1 ∨ y4 = 2 ∨ y4 = 3 := by omega
  have pa : 2 ^ (a4 + 1) = 2 * 2 ^ a4 := by rw [Nat.pow_succ, Nat.mul_comm]
  have pb : 2 ^ (a4 + 1 + 1) = 4 * 2 ^ a4 := by rw [Nat.pow_succ, pa]; omega
  rcases hy with rfl | rfl | rfl
  · rw [← un a4 (by omega) (by omega)]; congr 1
  · rw [← un (a4 + 1) (by omega) (by omega)]; congr 1
  · rw [← un (a4 + 1) (by omega) (by omega)]; congr 1

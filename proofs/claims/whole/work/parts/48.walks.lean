/-! walks: who goes how far -/
theorem ff_spec (P : Nat → Bool) : ∀ k i, (∀ s, ff P i k = some s → i ≤ s ∧ s < i + k ∧ P s = true ∧ ∀ j, i ≤ j → j < s → P j = false) ∧ (ff P i k = none → ∀ j, i ≤ j → j < i + k → P j = false)
  | 0, i => ⟨fun s h => by simp [ff] at h, fun _ j h1 h2 => absurd h2 (by omega)⟩
  | k + 1, i => by
    obtain ⟨a, b⟩ := ff_spec P k (i + 1)
    cases q : P i
    · rw [ff_n q]
      refine ⟨fun s h => ?_, fun h j h1 h2 => ?_⟩
      · obtain ⟨c1, c2, c3, c4⟩ := a s h
        refine ⟨by omega, by omega, c3, fun j h1 h2 => ?_⟩
        by_cases e : j = i
        · rw [e]; exact q
        · exact c4 j (by omega) h2
      · by_cases e : j = i
        · rw [e]; exact q
        · exact b h j (by omega) (by omega)
    · rw [ff_y q]
      refine ⟨fun s h => ?_, fun h => by cases h⟩
      cases h
      exact ⟨Nat.le_refl _, by omega, q, fun j h1 h2 => absurd h1 (by omega)⟩
theorem set_eq {F : FL} (hn : f_n F ≤ 7) (x : Int32) : (x &&& (preA F ^^^ (-1)) = 0) ↔ (inB x 0 ((2 ^ f_n F - 1 : Nat) : Int) = true ∧ x &&& f_o F = 0) := by
  have h7 := pow7 hn
  have hp : 0 < 2 ^ f_n F := Nat.pow_pos (by omega)
  constructor
  · intro h
    have ex : x = nI x.toBitVec.toNat := by
      apply Int32.toBitVec_inj.mp
      show x.toBitVec = BitVec.ofNat 32 x.toBitVec.toNat
      rw [BitVec.ofNat_toNat, BitVec.setWidth_eq]
    have hlt : x.toBitVec.toNat < 2 ^ f_n F := by
      apply Nat.lt_pow_two_of_testBit
      intro i hi
      by_cases q : i < 32
      · have h1 : bt (x &&& (preA F ^^^ (-1))) i = bt 0 i := by rw [h]
        rw [b_and, bt_not _ q, b_0, bt_pre hn q, decide_eq_false (by omega)] at h1
        have h2 : bt x i = false := by simpa using h1
        exact h2
      · exact Nat.testBit_lt_two_pow (Nat.lt_of_lt_of_le x.toBitVec.isLt (Nat.pow_le_pow_right (by omega) (by omega)))
    generalize x.toBitVec.toNat = s at ex hlt
    subst ex
    rw [sub_off hn hlt] at h
    exact ⟨decide_eq_true (by rw [nI_toInt (by omega)]; omega), h⟩
  · rintro ⟨h1, h2⟩
    have h3 := of_decide_eq_true h1
    obtain ⟨s, hs, hx⟩ : ∃ s : Nat, s < 2 ^ f_n F ∧ x = nI s := ⟨x.toInt.toNat, by omega, by rw [fa_eq, nI_toInt (by omega)]; omega⟩
    subst hx
    rw [sub_off hn hs]
    exact h2
section WP
variable (rm ld : Nat → Nat)
def WI (i left : Nat) (m : Int32) : Prop := left ≤ Rs rm ld 1 i ∧ left ≤ 126 ∧ (-1200 - 330 * (i : Int) ≤ m.toInt ∧ m.toInt ≤ 1200 + 330 * (i : Int)) ∧ 0 < m.toInt + (Ms rm ld i left : Int) ∧ (left = 0 ∨ m.toInt + (Ms rm ld i (left - 1) : Int) ≤ 0)
def fai (m : Int32) (i left : Nat) : Nat := fdn (pW rm ld m i left) (min left (rm i))
variable {rm ld}
theorem WI_ex {i left : Nat} {m : Int32} (h : WI rm ld i left m) (hi : i < 7) (h1 : 1 ≤ ld i) (h18 : ld i ≤ 18) : ∃ y, y ≤ min left (rm i) ∧ pW rm ld m i left y = true := by
  obtain ⟨a1, a2, a3, a4, a5⟩ := h
  obtain ⟨b1, b2, b3⟩ := bsx_ok rm ld (s := left) hi h1 a1
  refine ⟨bsx rm ld i left, by omega, decide_eq_true ?_⟩
  rw [Ms_best rm ld hi h18]; exact a4
/-- with more places left than those behind one can go, it doesn't do -/
theorem WI_bad {i left x : Nat} {m : Int32} (h : WI rm ld i left m) (hi : i < 7) (h18 : ld i ≤ 18) (hx : x ≤ rm i) (hx2 : x ≤ left) (hb : Rs rm ld 1 (i + 1) < left - x) : pW rm ld m i left x = false := by
  obtain ⟨a1, a2, a3, a4, a5⟩ := h
  refine decide_eq_false ?_
  have e1 := Ms_cap rm ld (i := i + 1) (s := left - x) (by omega)
  have e2 := Ms_cap rm ld (i := i + 1) (s := left - 1 - x) (by omega)
  have h3 := Ms_upper rm ld (i := i) (s := left - 1) (x := x) hi h18 hx (by omega)
  rw [e1, ← e2]
  omega
theorem WI_step {i left : Nat} {m : Int32} (h : WI rm ld i left m) (hi : i < 7) (h1 : 1 ≤ ld i) (h18 : ld i ≤ 18) (hr : rm i ≤ 18) : fai rm ld m i left ≤ left ∧ fai rm ld m i left ≤ rm i ∧ WI rm ld (i + 1) (left - fai rm ld m i left) (m + nI (fai rm ld m i left) * nI (ld i)) := by
  have hle := fdn_le (pW rm ld m i left) (min left (rm i))
  have hok := fdn_ok (WI_ex h hi h1 h18)
  change fai rm ld m i left ≤ _ at hle
  change pW rm ld m i left (fai rm ld m i left) = true at hok
  generalize fai rm ld m i left = x at hle hok ⊢
  have hnb : left - x ≤ Rs rm ld 1 (i + 1) := by
    rcases Nat.lt_or_ge (Rs rm ld 1 (i + 1)) (left - x) with q | q
    · rw [WI_bad h hi h18 (by omega) (by omega) q] at hok
      exact absurd hok (by decide)
    · exact q
  obtain ⟨a1, a2, a3, a4, a5⟩ := h
  have hp := of_decide_eq_true hok
  have hmul : x * ld i ≤ 18 * 18 := Nat.mul_le_mul (by omega) h18
  have e : (m + nI x * nI (ld i)).toInt = m.toInt + (x * ld i : Nat) := by
    rw [nI_mul, toInt_addS (by rw [nI_toInt (by omega)]; omega), nI_toInt (by omega)]
  refine ⟨by omega, by omega, hnb, by omega, ?_, ?_, ?_⟩
  · rw [e]; omega
  · rw [e]; omega
  · by_cases q : left - x = 0
    · exact .inl q
    · right
      have h3 := Ms_upper rm ld (i := i) (s := left - 1) (x := x) hi h18 (by omega) (by omega)
      rw [e, show left - x - 1 = left - 1 - x by omega]
      omega
theorem WI_start {m : Int32} (hm : -1200 ≤ m.toInt ∧ m.toInt ≤ 1200) {s : Nat} (hs : ff (qW rm ld m) 0 127 = some s) : WI rm ld 0 s m := by
  obtain ⟨-, c2, c3, c4⟩ := (ff_spec (qW rm ld m) 127 0).1 s hs
  have hp := of_decide_eq_true c3
  have hT : s ≤ Rs rm ld 1 0 := by
    rcases Nat.lt_or_ge (Rs rm ld 1 0) s with q | q
    · have := of_decide_eq_false (c4 (Rs rm ld 1 0) (by omega) q)
      rw [Ms_cap rm ld (by omega)] at hp
      exact absurd hp this
    · exact q
  refine ⟨hT, by omega, by omega, hp, ?_⟩
  by_cases q : s = 0
  · exact .inl q
  · right
    have := of_decide_eq_false (c4 (s - 1) (by omega) (by omega))
    omega
/-- left, and the moment, when so many have gone -/
def wS (rm ld : Nat → Nat) (L : Nat) (m : Int32) : Nat → Nat × Int32
  | 0 => (L, m)
  | i + 1 => ((wS rm ld L m i).1 - fai rm ld (wS rm ld L m i).2 i (wS rm ld L m i).1, (wS rm ld L m i).2 + nI (fai rm ld (wS rm ld L m i).2 i (wS rm ld L m i).1) * nI (ld i))
def wF (rm ld : Nat → Nat) (L : Nat) (m : Int32) (i : Nat) : Int64 := (nI (fai rm ld (wS rm ld L m i).2 i (wS rm ld L m i).1)).toInt64
theorem wS_ok {L n : Nat} {m : Int32} (h : WI rm ld 0 L m) (hn : n ≤ 7) (hl : ∀ i, i < n → 1 ≤ ld i ∧ ld i ≤ 18 ∧ rm i ≤ 18) : ∀ i, i ≤ n → WI rm ld i (wS rm ld L m i).1 (wS rm ld L m i).2
  | 0, _ => h
  | i + 1, hi => (WI_step (wS_ok h hn hl i (by omega)) (by omega) (hl i (by omega)).1 (hl i (by omega)).2.1 (hl i (by omega)).2.2).2.2
end WP

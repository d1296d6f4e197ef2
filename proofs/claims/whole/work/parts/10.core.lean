/-! Int32 by its bits (out of the kit's laws/BITS.to-paste) -/
def bt (x : Int32) (i : Nat) : Bool := x.toBitVec.getLsbD i
theorem b_ext {x y : Int32} (h : ∀ i, i < 32 → bt x i = bt y i) : x = y := Int32.toBitVec_inj.mp (BitVec.eq_of_getLsbD_eq (fun i hi => h i hi))
theorem b_or (x y : Int32) (i : Nat) : bt (x ||| y) i = (bt x i || bt y i) := by unfold bt; rw [Int32.toBitVec_or, BitVec.getLsbD_or]
theorem b_and (x y : Int32) (i : Nat) : bt (x &&& y) i = (bt x i && bt y i) := by unfold bt; rw [Int32.toBitVec_and, BitVec.getLsbD_and]
theorem b_xor (x y : Int32) (i : Nat) : bt (x ^^^ y) i = (bt x i ^^ bt y i) := by unfold bt; rw [Int32.toBitVec_xor, BitVec.getLsbD_xor]
theorem b_big {x : Int32} {i : Nat} (h : 32 ≤ i) : bt x i = false := BitVec.getLsbD_of_ge _ _ h
theorem b_255 (i : Nat) : bt 255 i = decide (i < 8) := by
  rcases Nat.lt_or_ge i 32 with h | h
  · exact (by decide +kernel : ∀ i, i < 32 → bt 255 i = decide (i < 8)) i h
  · rw [b_big h, decide_eq_false (by omega)]
theorem b_65535 (i : Nat) : bt 65535 i = decide (i < 16) := by
  rcases Nat.lt_or_ge i 32 with h | h
  · exact (by decide +kernel : ∀ i, i < 32 → bt 65535 i = decide (i < 16)) i h
  · rw [b_big h, decide_eq_false (by omega)]
theorem b_m1 : ∀ i, i < 32 → bt (-1) i = true := by decide +kernel
theorem b_0 (i : Nat) : bt 0 i = false := BitVec.getLsbD_zero
theorem s_l : ∀ n, n < 32 → ((nI n &&& 31).toBitVec.smod 32).toNat = n := by decide +kernel
theorem s_u : ∀ n, n < 32 → (((nI n).toUInt32 &&& Int32.toUInt32 31).toBitVec % 32).toNat = n := by decide +kernel
theorem b_shl (n : Nat) (hn : n < 32) (x : Int32) {i : Nat} (hi : i < 32) : bt (x <<< (nI n &&& 31)) i = (decide (n ≤ i) && bt x (i - n)) := by
  unfold bt
  rw [Int32.toBitVec_shiftLeft]
  show (x.toBitVec <<< ((nI n &&& 31).toBitVec.smod 32).toNat).getLsbD i = _
  rw [s_l n hn, BitVec.getLsbD_shiftLeft]
  rcases Nat.lt_or_ge i n with h | h
  · simp [h, Nat.not_le.mpr h]
  · simp [hi, h, Nat.not_lt.mpr h]
theorem b_ushr (n : Nat) (hn : n < 32) (x : Int32) (i : Nat) : bt ((x.toUInt32 >>> ((nI n).toUInt32 &&& Int32.toUInt32 31)).toInt32) i = bt x (n + i) := by
  show (x.toUInt32 >>> ((nI n).toUInt32 &&& Int32.toUInt32 31)).toBitVec.getLsbD i = x.toUInt32.toBitVec.getLsbD (n + i)
  rw [UInt32.toBitVec_shiftRight]
  show (x.toUInt32.toBitVec >>> (((nI n).toUInt32 &&& Int32.toUInt32 31).toBitVec % 32).toNat).getLsbD i = _
  rw [s_u n hn, BitVec.getLsbD_ushiftRight]
theorem b_sshr (n : Nat) (hn : n < 32) (x : Int32) {i : Nat} (hi : i < 32) : bt (x >>> (nI n &&& 31)) i = if n + i < 32 then bt x (n + i) else bt x 31 := by
  unfold bt
  rw [Int32.toBitVec_shiftRight]
  show (x.toBitVec.sshiftRight ((nI n &&& 31).toBitVec.smod 32).toNat).getLsbD i = _
  rw [s_l n hn, BitVec.getLsbD_sshiftRight, BitVec.msb_eq_getLsbD_last]
  simp [hi]
theorem b_shl8 (x : Int32) {i : Nat} (hi : i < 32) : bt (x <<< ((8 : Int32) &&& 31)) i = (decide (8 ≤ i) && bt x (i - 8)) := b_shl 8 (by omega) x hi
theorem b_shl16 (x : Int32) {i : Nat} (hi : i < 32) : bt (x <<< ((16 : Int32) &&& 31)) i = (decide (16 ≤ i) && bt x (i - 16)) := b_shl 16 (by omega) x hi
theorem b_shl24 (x : Int32) {i : Nat} (hi : i < 32) : bt (x <<< ((24 : Int32) &&& 31)) i = (decide (24 ≤ i) && bt x (i - 24)) := b_shl 24 (by omega) x hi
theorem b_sshr8 (x : Int32) {i : Nat} (hi : i < 32) : bt (x >>> ((8 : Int32) &&& 31)) i = if 8 + i < 32 then bt x (8 + i) else bt x 31 := b_sshr 8 (by omega) x hi
/-! ===== nI under and, xor, >>>, one bit, 65535 ===== -/
/-! counting -/
def fN {α : Type} (f : Nat → α → α) : Nat → α → α
  | 0, a => a
  | n + 1, a => f n (fN f n a)
theorem fN_congr {α : Type} {f g : Nat → α → α} {n : Nat} (h : ∀ i, i < n → ∀ a, f i a = g i a) : ∀ a, fN f n a = fN g n a := by
  induction n with
  | zero => intro a; rfl
  | succ n ih =>
    intro a
    show f n (fN f n a) = g n (fN g n a)
    rw [ih (fun i hi => h i (by omega)), h n (by omega)]
/-- a bit that is asked for by >> and & 1 -/
theorem bt_ask (x : Int32) {i : Nat} (hi : i < 31) : ((x >>> (nI i &&& 31)) &&& 1) = if bt x i then 1 else 0 := by
  apply b_ext
  intro j hj
  rw [b_and, b_sshr i (by omega) x hj]
  have h1 : bt 1 j = decide (j = 0) := (by decide +kernel : ∀ j, j < 32 → bt 1 j = decide (j = 0)) j hj
  rw [h1]
  by_cases hz : j = 0
  · subst hz
    simp only [Nat.add_zero, decide_true, Bool.and_true, if_pos (by omega : i < 32)]
    cases bt x i <;> decide +kernel
  · rw [decide_eq_false hz, Bool.and_false]
    cases bt x i
    · exact (b_0 j).symm
    · show false = bt 1 j
      rw [h1, decide_eq_false hz]
theorem bt_ask0 (x : Int32) {i : Nat} (hi : i < 31) : ((x >>> (nI i &&& 31)) &&& 1) = 0 ↔ bt x i = false := by
  rw [bt_ask x hi]
  cases bt x i <;> simp
theorem bt_ask1 (x : Int32) {i : Nat} (hi : i < 31) : ((x >>> (nI i &&& 31)) &&& 1) = 1 ↔ bt x i = true := by
  rw [bt_ask x hi]
  cases bt x i <;> simp
theorem bt_all : ∀ n, n ≤ 7 → ∀ i, i < 32 → bt (((1 : Int32) <<< (nI n &&& 31)) - 1) i = decide (i < n) := by decide +kernel
theorem bt_not (x : Int32) {i : Nat} (hi : i < 32) : bt (x ^^^ (-1)) i = !bt x i := by
  rw [b_xor, b_m1 i hi]
  cases bt x i <;> rfl
theorem bt_one : ∀ k, k < 31 → ∀ i, i < 32 → bt ((1 : Int32) <<< (nI k &&& 31)) i = decide (i = k) := by decide +kernel
/-! the floor as both sides hold it: how many, weights, wishes, places, sacks, who is off, minute, noon -/
abbrev FL : Type := Nat × (Nat → Int32) × (Nat → Int32) × (Nat → Int32) × (Nat → Int32) × Int32 × Int32 × Int32
def m7 (f : Nat → Int32) : Nat → Int32 := fun i => if i < 7 then f i else 0
theorem m7_at {f : Nat → Int32} {i : Nat} (h : i < 7) : m7 f i = f i := if_pos h
def flC (b : Nat) (μ : Mm) : FL := ((μ.1 b 0).toNatClampNeg, m7 (μ.1 (b + 1)), m7 (μ.1 (b + 2)), m7 (μ.1 (b + 3)), m7 (μ.1 (b + 4)), μ.1 b 5, μ.1 b 6, μ.1 b 7)
def flM (r : Nat) (μ : Mm) : FL := ((μ.1 49 3).toNatClampNeg, m7 (μ.1 51), m7 (μ.1 r), m7 (fun i => μ.1 r (7 + i)), m7 (fun i => μ.1 r (14 + i)), μ.1 r 21, μ.1 r 22, μ.1 r 23)
def SzC (b : Nat) (μ : Mm) : Prop := ∃ n : Nat, n ≤ 7 ∧ μ.1 b 0 = nI n
def SzM (μ : Mm) : Prop := ∃ n : Nat, n ≤ 7 ∧ μ.1 49 3 = nI n
theorem flC_n {b n : Nat} {μ : Mm} (hn : n ≤ 7) (h : μ.1 b 0 = nI n) : (flC b μ).1 = n := by
  show (μ.1 b 0).toNatClampNeg = n
  rw [h, nI_clamp (by omega)]
theorem flM_n {r n : Nat} {μ : Mm} (hn : n ≤ 7) (h : μ.1 49 3 = nI n) : (flM r μ).1 = n := by
  show (μ.1 49 3).toNatClampNeg = n
  rw [h, nI_clamp (by omega)]
theorem FU_gt {n : Nat} (h : n < 5000000000) : n < FU := Nat.lt_of_lt_of_le h FU_le
/-- MOMENT -/
def momF (F : FL) : Int32 := fN (fun i a => if bt F.2.2.2.2.2.1 i then a else a + (F.2.1 i + F.2.2.2.2.1 i) * F.2.2.2.1 i) F.1 0
theorem sp_X1_moment {b : Nat} {μ : Mm} (hs : SzC b μ) : p_X1_moment b μ ∧ v_X1_moment b μ = momF (flC b μ) := by
  obtain ⟨n, hn, h⟩ := hs
  let S : Nat → Int32 := fun k => fN (fun i a => if bt (μ.1 b 5) i then a else a + (m7 (μ.1 (b + 1)) i + m7 (μ.1 (b + 4)) i) * m7 (μ.1 (b + 3)) i) k 0
  have hstep : ∀ i, i < n → bd_X1_moment_4 b μ (S i) (nI i) = .inl (S (i + 1), nI (i + 1)) := by
    intro i hi
    unfold bd_X1_moment_4
    rw [h, if_neg (nI_ge hi (by omega)), nI_clamp (by omega), nI_1]
    show Sum.inl _ = Sum.inl (fN _ (i + 1) 0, nI (i + 1))
    simp only [fN, bt_ask0 (μ.1 b 5) (show i < 31 by omega), m7_at (show i < 7 by omega)]
    cases bt (μ.1 b 5) i <;> rfl
  have hend : bd_X1_moment_4 b μ (S n) (nI n) = .inr (S n) := by
    unfold bd_X1_moment_4
    rw [h, if_pos (nI_le (Nat.le_refl n) (by omega))]
  refine ⟨?_, ?_⟩
  · refine whP_for (r := S n) (n := n) (fun i => (S i, nI i)) (fun i hi => ?_) hstep hend FU (FU_gt (by omega))
    intro hc hb
    have hi2 : i < n := by
      rcases Nat.lt_or_ge i n with q | q
      · exact q
      · exact absurd (by show μ.1 b 0 ≤ nI i; rw [h]; exact nI_le q (by omega)) hc
    exact ⟨vp_in_nI (by omega) (by omega), vp_in_nI (by omega) (by omega), vp_in_nI (by omega) (by omega)⟩
  · show whl _ _ FU (0, 0) = _
    rw [show ((0 : Int32), (0 : Int32)) = (S 0, nI 0) from rfl, whl_for (r := S n) (n := n) (fun i => (S i, nI i)) hstep hend FU (FU_gt (by omega))]
    show S n = fN _ (flC b μ).1 0
    rw [flC_n hn h]
    rfl

/-! sets of people as numbers -/
theorem bt_nI (s i : Nat) : bt (nI s) i = (decide (i < 32) && s.testBit i) := by
  show (BitVec.ofNat 32 s).getLsbD i = _
  rw [BitVec.getLsbD_ofNat]
theorem bt_nIt {s i : Nat} (hi : i < 32) : bt (nI s) i = s.testBit i := by rw [bt_nI, decide_eq_true hi, Bool.true_and]
def mkN (g : Nat → Bool) : Nat → Nat
  | 0 => 0
  | n + 1 => mkN g n + (if g n then 2 ^ n else 0)
theorem mkN_lt (g : Nat → Bool) : ∀ n, mkN g n < 2 ^ n
  | 0 => by show 0 < 1; omega
  | n + 1 => by
    have := mkN_lt g n
    unfold mkN
    rw [Nat.pow_succ]
    split <;> omega
theorem mkb_N (g : Nat → Bool) {n : Nat} (hn : n ≤ 7) : mkb g n = nI (mkN g n) := by
  have h : n = 0 ∨ n = 1 ∨ n = 2 ∨ n = 3 ∨ n = 4 ∨ n = 5 ∨ n = 6 ∨ n = 7 := by omega
  rcases h with rfl | rfl | rfl | rfl | rfl | rfl | rfl | rfl <;> simp only [mkb, mkN] <;> generalize g 0 = b0 <;> generalize g 1 = b1 <;> generalize g 2 = b2 <;> generalize g 3 = b3 <;> generalize g 4 = b4 <;> generalize g 5 = b5 <;> generalize g 6 = b6 <;> revert b0 b1 b2 b3 b4 b5 b6 <;> decide +kernel
def pN (F : FL) : Nat := mkN (fun i => !bt (f_o F) i) (f_n F)
theorem pow7 {n : Nat} (h : n ≤ 7) : 2 ^ n ≤ 128 := by
  have : n = 0 ∨ n = 1 ∨ n = 2 ∨ n = 3 ∨ n = 4 ∨ n = 5 ∨ n = 6 ∨ n = 7 := by omega
  rcases this with rfl | rfl | rfl | rfl | rfl | rfl | rfl | rfl <;> decide
theorem preA_N {F : FL} (hn : f_n F ≤ 7) : preA F = nI (pN F) := by
  unfold pN
  rw [← mkb_N _ hn]
  apply b_ext
  intro i hi
  rw [bt_pre hn hi, bt_mkb (by omega) hi]
theorem pN_lt (F : FL) : pN F < 2 ^ f_n F := mkN_lt _ _
theorem all_N {r : Nat} {F : FL} {μ : Mm} (h : FlM r F μ) : v_X12_all μ = nI (2 ^ f_n F - 1) := by
  unfold v_X12_all
  rw [h.sz]
  exact (by decide +kernel : ∀ n, n ≤ 7 → ((1 : Int32) <<< (nI n &&& 31)) - 1 = nI (2 ^ n - 1)) _ h.1
theorem tb_hi {s n i : Nat} (hs : s < 2 ^ n) (hi : n ≤ i) : s.testBit i = false := Nat.testBit_lt_two_pow (Nat.lt_of_lt_of_le hs (Nat.pow_le_pow_right (by omega) hi))
theorem sub_off {F : FL} (hn : f_n F ≤ 7) {s : Nat} (hs : s < 2 ^ f_n F) : nI s &&& (preA F ^^^ (-1)) = nI s &&& f_o F := by
  apply b_ext
  intro i hi
  rw [b_and, b_and, bt_not _ hi, bt_pre hn hi, bt_nIt hi]
  by_cases q : i < f_n F
  · rw [decide_eq_true q]; simp
  · rw [tb_hi hs (by omega)]; simp
theorem sub_le {s p : Nat} (hs : s < 2 ^ 31) (h : nI s &&& (nI p ^^^ (-1)) = 0) : s ≤ p := by
  have e : s &&& p = s := by
    apply Nat.eq_of_testBit_eq
    intro i
    rw [Nat.testBit_and]
    by_cases q : i < 32
    · have this : bt (nI s &&& (nI p ^^^ (-1))) i = bt 0 i := by rw [h]
      rw [b_and, bt_not _ q, b_0, bt_nIt q, bt_nIt q] at this
      cases h1 : s.testBit i <;> cases h2 : p.testBit i <;> simp [h1, h2] at this ⊢
    · rw [tb_hi (n := 31) hs (by omega)]; simp
  rw [← e]
  exact Nat.and_le_right
def subB (F : FL) (s : Nat) : Bool := decide (nI s &&& (preA F ^^^ (-1)) = 0)
theorem subB_le {F : FL} (hn : f_n F ≤ 7) {s : Nat} (hs : s < 2 ^ 31) (h : subB F s = true) : s ≤ pN F := by
  have := of_decide_eq_true h
  rw [preA_N hn] at this
  exact sub_le hs this
theorem subB_bit {F : FL} (hn : f_n F ≤ 7) {s i : Nat} (hi : i < 32) (h : subB F s = true) (hb : bt (nI s) i = true) : i < f_n F ∧ bt (f_o F) i = false := by
  have this : bt (nI s &&& (preA F ^^^ (-1))) i = bt 0 i := by rw [of_decide_eq_true h]
  rw [b_and, bt_not _ hi, b_0, bt_pre hn hi, hb] at this
  simpa using this
/-! the fewest of those that do -/
def bcN (s : Nat) : Int32 := v_J6_bitCount_0f7a4 (nI s)
def fwS (D : Nat → Bool) : Nat → Option Nat × Nat
  | 0 => (none, 0)
  | s + 1 => if D s then ((match (fwS D s).1 with
      | none => some s
      | some b => if bcN b ≤ bcN s then some b else some s), (fwS D s).2 + 1) else fwS D s
theorem fwS_ok (D : Nat → Bool) : ∀ m, (fwS D m).2 ≤ m ∧ ((fwS D m).2 = 0 ↔ (fwS D m).1 = none) ∧ ∀ b, (fwS D m).1 = some b → b < m ∧ D b = true ∧ ∀ s, s < m → D s = true → bcN b ≤ bcN s ∧ (bcN s ≤ bcN b → b ≤ s)
  | 0 => ⟨Nat.le_refl _, by simp [fwS], fun b h => by simp [fwS] at h⟩
  | m + 1 => by
    obtain ⟨h1, h2, h3⟩ := fwS_ok D m
    unfold fwS
    by_cases q : D m = true
    · rw [if_pos q]
      refine ⟨by dsimp only; omega, ?_, ?_⟩
      · dsimp only
        cases (fwS D m).1 <;> simp
        split <;> simp
      · intro b hb
        dsimp only at hb
        cases hf : (fwS D m).1 with
        | none =>
          rw [hf] at hb
          simp at hb
          subst hb
          refine ⟨by omega, q, fun s hs hd => ?_⟩
          by_cases e : s = m
          · subst e; exact ⟨by rw [fa_le]; omega, fun _ => Nat.le_refl _⟩
          · exfalso
            have hz : (fwS D m).2 = 0 := h2.mpr hf
            exact absurd hd (by
              have : ∀ k, k ≤ m → (fwS D k).2 = 0 → ∀ s, s < k → ¬ D s = true := by
                intro k
                induction k with
                | zero => intro _ _ s hs; omega
                | succ k ih =>
                  intro hk hz2 s hs hd2
                  unfold fwS at hz2
                  by_cases q3 : D k = true
                  · rw [if_pos q3] at hz2; simp at hz2
                  · rw [if_neg q3] at hz2
                    by_cases e3 : s = k
                    · subst e3; exact q3 hd2
                    · exact ih (by omega) hz2 s (by omega) hd2
              exact this m (Nat.le_refl _) hz s (by omega))
        | some b' =>
          rw [hf] at hb
          dsimp only at hb
          obtain ⟨g1, g2, g3⟩ := h3 b' hf
          by_cases q2 : bcN b' ≤ bcN m
          · rw [if_pos q2] at hb
            simp at hb
            subst hb
            refine ⟨by omega, g2, fun s hs hd => ?_⟩
            by_cases e : s = m
            · subst e; exact ⟨q2, fun _ => by omega⟩
            · exact g3 s (by omega) hd
          · rw [if_neg q2] at hb
            simp at hb
            subst hb
            refine ⟨by omega, q, fun s hs hd => ?_⟩
            by_cases e : s = m
            · subst e; exact ⟨by rw [fa_le]; omega, fun _ => Nat.le_refl _⟩
            · obtain ⟨g4, g5⟩ := g3 s (by omega) hd
              rw [fa_le] at q2 g4
              refine ⟨by rw [fa_le]; omega, fun z => ?_⟩
              rw [fa_le] at z
              omega
    · rw [if_neg q]
      refine ⟨by omega, h2, fun b hb => ?_⟩
      obtain ⟨g1, g2, g3⟩ := h3 b hb
      refine ⟨by omega, g2, fun s hs hd => ?_⟩
      by_cases e : s = m
      · subst e; exact absurd hd q
      · exact g3 s (by omega) hd
theorem fwS_none {D : Nat → Bool} {m : Nat} (h : (fwS D m).1 = none) : ∀ s, s < m → D s = false := by
  induction m with
  | zero => intro s hs; omega
  | succ m ih =>
    intro s hs
    unfold fwS at h
    by_cases q : D m = true
    · rw [if_pos q] at h
      dsimp only at h
      cases hf : (fwS D m).1 <;> rw [hf] at h
      · simp at h
      · dsimp only at h
        split at h <;> simp at h
    · rw [if_neg q] at h
      by_cases e : s = m
      · subst e; simpa using q
      · exact ih h s (by omega)
theorem fwS_cut {D : Nat → Bool} {m : Nat} : ∀ k, (∀ s, m ≤ s → s < m + k → D s = false) → fwS D (m + k) = fwS D m
  | 0, _ => rfl
  | k + 1, h => by
    show (if D (m + k) then _ else fwS D (m + k)) = _
    rw [h (m + k) (by omega) (by omega), if_neg (by decide)]
    exact fwS_cut k (fun s h1 h2 => h s h1 (by omega))
theorem fwS_congr {D E : Nat → Bool} : ∀ {m : Nat}, (∀ s, s < m → D s = E s) → fwS D m = fwS E m
  | 0, _ => rfl
  | m + 1, h => by
    unfold fwS
    rw [fwS_congr (fun s hs => h s (by omega)), h m (by omega)]
/-- the best is the same where each that does and isn't among D's has a smaller one that is -/
theorem fwS_best {D E : Nat → Bool} {m : Nat} (h1 : ∀ s, s < m → D s = true → E s = true) (h2 : ∀ s, s < m → E s = true → D s = false → ∃ t, t < m ∧ D t = true ∧ ¬ bcN s ≤ bcN t) : (fwS D m).1 = (fwS E m).1 := by
  obtain ⟨-, -, d3⟩ := fwS_ok D m
  obtain ⟨-, -, e3⟩ := fwS_ok E m
  cases hE : (fwS E m).1 with
  | none =>
    cases hD : (fwS D m).1 with
    | none => rfl
    | some b =>
      obtain ⟨g1, g2, g3⟩ := d3 b hD
      have := fwS_none hE b g1
      rw [h1 b g1 g2] at this
      exact absurd this (by decide)
  | some c =>
    obtain ⟨c1, c2, c3⟩ := e3 c hE
    have hc : D c = true := by
      cases q : D c
      · obtain ⟨t, t1, t2, t3⟩ := h2 c c1 c2 q
        exact absurd (c3 t t1 (h1 t t1 t2)).1 t3
      · rfl
    cases hD : (fwS D m).1 with
    | none => exact absurd hc (by rw [fwS_none hD c c1]; decide)
    | some b =>
      obtain ⟨g1, g2, g3⟩ := d3 b hD
      obtain ⟨x1, x2⟩ := g3 c c1 hc
      obtain ⟨y1, y2⟩ := c3 b g1 (h1 b g1 g2)
      have := x2 y1
      have := y2 x1
      have : b = c := by omega
      rw [this]
theorem sm_cut {f : Nat → Int32} {n : Nat} : ∀ {m : Nat}, n ≤ m → (∀ i, n ≤ i → i < m → f i = 0) → sm f m = sm f n
  | 0, h, _ => by have : n = 0 := by omega
                  subst this; rfl
  | m + 1, h, hz => by
    by_cases e : n = m + 1
    · subst e; rfl
    · show sm f m + f m = sm f n
      rw [hz m (by omega) (by omega), Int32.add_zero, sm_cut (by omega) (fun i h1 h2 => hz i h1 (by omega))]
theorem sm_add {f g : Nat → Int32} : ∀ n, sm f n + sm g n = sm (fun i => f i + g i) n
  | 0 => by show (0 : Int32) + 0 = 0; decide
  | n + 1 => by
    show sm f n + f n + (sm g n + g n) = sm (fun i => f i + g i) n + (f n + g n)
    rw [← sm_add n, Int32.add_assoc, Int32.add_assoc, ← Int32.add_assoc (f n), Int32.add_comm (f n), Int32.add_assoc (sm g n)]
theorem sm_mul (c : Int32) {f : Nat → Int32} : ∀ n, c * sm f n = sm (fun i => c * f i) n
  | 0 => by show c * 0 = 0; rw [Int32.mul_zero]
  | n + 1 => by
    show c * (sm f n + f n) = sm (fun i => c * f i) n + c * f n
    rw [Int32.mul_add, sm_mul c n]
def gnS (g : Nat → Int32) (n s : Nat) : Int32 := sm (fun i => if bt (nI s) i then g i else 0) n
def doB (ex : Int32) (x : Int32) : Bool := if ex = 0 then decide (¬ x ≤ 0) else decide (x = 0)
theorem does_B (x ex : Int32) : v_X8_does x ex = if doB ex x then 1 else 0 := by
  unfold v_X8_does doB
  by_cases q : ex = 0
  · rw [if_pos q, if_pos q]; by_cases q2 : x ≤ 0 <;> simp [q2]
  · rw [if_neg q, if_neg q]; by_cases q2 : x = 0 <;> simp [q2]
section SE
variable {σ : ST} {F : FL} {R : List Int64} {μ : Mm}
theorem C_total {g : Nat → Int32} {base : Int32} (hn : f_n F ≤ 7) (hb : μ.1 33 2 = base) (hg : ∀ i, i < f_n F → μ.1 34 i = g i) {s : Nat} (hs : subB F s = true) : p_X8_total (nI s) μ ∧ v_X8_total (nI s) μ = base + gnS g (f_n F) s := by
  have key := lpF (f := fun s : Int32 × Int32 × Int32 => bd_X8_total_7 μ s.1 s.2.1 s.2.2) (sd := fun s : Int32 × Int32 × Int32 => sd_X8_total_7 μ s.1 s.2.1 s.2.2) (dd := fun _ : Int32 × Int32 × Int32 => 0)
    (fun i => (nI s, base + sm (fun i => if bt (nI s) i then μ.1 34 i else 0) i, nI i)) 7 (r := base + gnS g (f_n F) s) (by omega) (fun i hi => ⟨?_, ?_⟩) ⟨?_, ?_⟩
  · have e : base + sm (fun i => if bt (nI s) i then μ.1 34 i else 0) 0 = base := by show base + 0 = base; rw [Int32.add_zero]
    rw [e] at key
    unfold p_X8_total v_X8_total
    rw [hb]
    exact key
  · intro _ _; exact vp_in_nI (by omega) (by omega)
  · show bd_X8_total_7 μ _ _ (nI i) = _
    unfold bd_X8_total_7
    have g7 : ¬ ((7 : Int32) ≤ nI i) := nI_ge (b := 7) hi (by omega)
    rw [if_neg g7, nI_1, isIn_b _ (by omega), nI_clamp (by omega)]
    simp only [sm]
    rw [Int32.add_assoc]
    cases bt (nI s) i <;> simp
  · intro z; exact absurd (nI_le (a := 7) (Nat.le_refl _) (by omega)) z
  · show bd_X8_total_7 μ _ _ (nI 7) = _
    unfold bd_X8_total_7
    have g7 : (7 : Int32) ≤ nI 7 := nI_le (a := 7) (Nat.le_refl _) (by omega)
    rw [if_pos g7]
    have e2 : sm (fun i => if bt (nI s) i then μ.1 34 i else 0) (f_n F) = gnS g (f_n F) s := by
      unfold gnS
      exact sm_congr (fun i hi => by rw [hg i hi])
    dsimp only
    rw [sm_cut (n := f_n F) hn (fun i h1 h2 => ?_), e2]
    · by_cases q : bt (nI s) i = true
      · have := (subB_bit hn (by omega) hs q).1
        omega
      · rw [if_neg q]
def bsC (o : Option Nat) : Int32 := match o with
  | none => 0
  | some b => nI b
def srD (F : FL) (g : Nat → Int32) (base ex : Int32) (s : Nat) : Bool := subB F s && doB ex (base + gnS g (f_n F) s)
theorem C_search {g : Nat → Int32} {base : Int32} (hn : f_n F ≤ 7) (hp : μ.1 33 1 = preA F) (hb : μ.1 33 2 = base) (hg : ∀ i, i < f_n F → μ.1 34 i = g i) (ex : Int32) : p_X8_search ex μ ∧ v_X8_search ex μ = (if (fwS (srD F g base ex) (pN F + 1)).2 = 0 then 0 else 1) ∧ (e_X8_search ex μ).1 33 3 = bsC (fwS (srD F g base ex) (pN F + 1)).1 ∧ (e_X8_search ex μ).1 33 4 = nI (fwS (srD F g base ex) (pN F + 1)).2 := by
  have hpl := pN_lt F
  have hp7 := pow7 hn
  unfold p_X8_search v_X8_search e_X8_search
  simp only [forall_eq]
  have key := lpI (f := fun s : Int32 × Int32 × Mm => bd_X8_search_12 s.1 s.2.1 s.2.2) (sd := fun s : Int32 × Int32 × Mm => sd_X8_search_12 s.1 s.2.1 s.2.2) (dd := fun s : Int32 × Int32 × Mm => s.2.2)
    (I := fun s x => s ≤ pN F + 1 ∧ ∃ μ', x = (ex, nI s, μ') ∧ μ'.1 33 1 = preA F ∧ μ'.1 33 2 = base ∧ μ'.1 34 = μ.1 34 ∧ μ'.1 33 3 = bsC (fwS (srD F g base ex) s).1 ∧ μ'.1 33 4 = nI (fwS (srD F g base ex) s).2)
    (R := fun z => z.1 33 3 = bsC (fwS (srD F g base ex) (pN F + 1)).1 ∧ z.1 33 4 = nI (fwS (srD F g base ex) (pN F + 1)).2) (pN F + 1) (by omega) ?_ (s0 := (ex, 0, upI (upI μ 33 4 0) 33 3 0)) ⟨Nat.zero_le _, _, rfl, by rw [rI, if_neg (by omega), rI, if_neg (by omega)]; exact hp, by rw [rI, if_neg (by omega), rI, if_neg (by omega)]; exact hb, by rw [rIc (by omega), rIc (by omega)], by rw [rI, if_pos ⟨rfl, rfl⟩]; rfl, by rw [rI, if_neg (by omega), rI, if_pos ⟨rfl, rfl⟩]; rfl⟩
  · obtain ⟨k1, k2, k3⟩ := key
    generalize whl _ _ FU _ = z at k2 k3 ⊢
    have hle := (fwS_ok (srD F g base ex) (pN F + 1)).1
    refine ⟨k1, ?_, k2, k3⟩
    rw [k3]
    by_cases q : (fwS (srD F g base ex) (pN F + 1)).2 = 0
    · rw [if_pos q, q, if_pos (by rw [nI_0]; decide)]
    · rw [if_neg q, if_neg (nI_nle (by omega) (by omega))]
  · rintro s _ hs ⟨hs2, μ', rfl, a1, a2, a3, a4, a5⟩
    dsimp only
    unfold sd_X8_search_12 bd_X8_search_12
    rw [a1, preA_N hn]
    simp only [nI_ltI (show pN F < 2 ^ 31 by omega) (show s < 2 ^ 31 by omega), nI_1]
    rcases Nat.lt_or_ge (pN F) s with z | z
    · have : s = pN F + 1 := by omega
      subst this
      rw [if_pos z]
      exact ⟨fun y => absurd z y, .inr ⟨_, rfl, a4, a5⟩⟩
    · rw [if_neg (show ¬ pN F < s by omega), ← preA_N hn]
      obtain ⟨o1, o2, o3⟩ := fwS_ok (srD F g base ex) s
      have ef : fwS (srD F g base ex) (s + 1) = if srD F g base ex s then ((match (fwS (srD F g base ex) s).1 with
        | none => some s
        | some b => if bcN b ≤ bcN s then some b else some s), (fwS (srD F g base ex) s).2 + 1) else fwS (srD F g base ex) s := rfl
      cases hsb : subB F s
      · have hne : ¬ (nI s &&& (preA F ^^^ (-1)) = 0) := of_decide_eq_false hsb
        rw [if_neg hne]
        refine ⟨fun _ y => absurd y hne, .inl ⟨_, rfl, by omega, by omega, μ', rfl, a1, a2, a3, ?_, ?_⟩⟩
        · rw [ef]; unfold srD; rw [hsb]; exact a4
        · rw [ef]; unfold srD; rw [hsb]; exact a5
      · have hye : nI s &&& (preA F ^^^ (-1)) = 0 := of_decide_eq_true hsb
        obtain ⟨t1, t2⟩ := C_total (μ := μ') (g := g) hn a2 (fun i hi => by rw [a3]; exact hg i hi) hsb
        rw [if_pos hye, t2, does_B]
        refine ⟨fun _ _ => t1, ?_⟩
        have hD : srD F g base ex s = doB ex (base + gnS g (f_n F) s) := by unfold srD; rw [hsb, Bool.true_and]
        cases hd : doB ex (base + gnS g (f_n F) s)
        · simp only [Bool.false_eq_true, if_false, if_true]
          refine .inl ⟨_, rfl, by omega, by omega, μ', rfl, a1, a2, a3, ?_, ?_⟩
          · rw [ef, hD, hd]; exact a4
          · rw [ef, hD, hd]; exact a5
        · simp only [if_true, show ¬ ((1 : Int32) = 0) from by decide, if_false]
          rw [ef, hD, hd, a4, a5]
          simp only [if_true]
          cases hf : (fwS (srD F g base ex) s).1 with
          | none =>
            have h0 := o2.mpr hf
            rw [h0, nI_0]
            simp only [if_true]
            refine .inl ⟨_, rfl, by omega, by omega, _, rfl, ?_, ?_, ?_, ?_, ?_⟩
            · rw [rI, if_neg (by omega), rI, if_neg (by omega)]; exact a1
            · rw [rI, if_neg (by omega), rI, if_neg (by omega)]; exact a2
            · rw [rIc (by omega), rIc (by omega)]; exact a3
            · rw [rI, if_neg (by omega), rI, if_pos ⟨rfl, rfl⟩]; rfl
            · rw [rI, if_pos ⟨rfl, rfl⟩, rI, if_neg (by omega), a5, h0]; rfl
          | some b =>
            have h0 : ¬ (fwS (srD F g base ex) s).2 = 0 := fun y => by rw [o2.mp y] at hf; cases hf
            have g0 : ¬ nI (fwS (srD F g base ex) s).2 = 0 := nI_ne0 (by omega) (by omega)
            simp only [if_neg g0]
            show (∃ s', _ ∧ _) ∨ _
            have eb : bsC (some b) = nI b := rfl
            rw [eb]
            by_cases q2 : bcN b ≤ bcN s
            · have q2' : v_J6_bitCount_0f7a4 (nI b) ≤ v_J6_bitCount_0f7a4 (nI s) := q2
              simp only [if_pos q2', if_pos q2]
              refine .inl ⟨_, rfl, by omega, by omega, _, rfl, ?_, ?_, ?_, ?_, ?_⟩
              · rw [rI, if_neg (by omega)]; exact a1
              · rw [rI, if_neg (by omega)]; exact a2
              · rw [rIc (by omega)]; exact a3
              · rw [rI, if_neg (by omega), a4, hf]
              · rw [rI, if_pos ⟨rfl, rfl⟩, a5, nI_1]
            · have q2' : ¬ v_J6_bitCount_0f7a4 (nI b) ≤ v_J6_bitCount_0f7a4 (nI s) := q2
              simp only [if_neg q2', if_neg q2]
              refine .inl ⟨_, rfl, by omega, by omega, _, rfl, ?_, ?_, ?_, ?_, ?_⟩
              · rw [rI, if_neg (by omega), rI, if_neg (by omega)]; exact a1
              · rw [rI, if_neg (by omega), rI, if_neg (by omega)]; exact a2
              · rw [rIc (by omega), rIc (by omega)]; exact a3
              · rw [rI, if_neg (by omega), rI, if_pos ⟨rfl, rfl⟩]; rfl
              · rw [rI, if_pos ⟨rfl, rfl⟩, rI, if_neg (by omega), a5, nI_1]
end SE

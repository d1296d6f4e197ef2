/-! what somebody decides: power, strongest -/
def frc (F : FL) (i : Nat) : Int32 := ldF F i * (if 0 ≤ f_h F i then f_h F i else 0 - f_h F i)
def othI (F : FL) (k : Nat) : Int32 := preA F &&& ((1 <<< (nI k &&& 31)) ^^^ (-1))
def othB (F : FL) (k : Nat) (i : Nat) : Bool := !bt (f_o F) i && decide (i ≠ k)
def oN (F : FL) (k : Nat) : Nat := mkN (othB F k) (f_n F)
theorem bt_oth {F : FL} (hn : f_n F ≤ 7) {k i : Nat} (hk : k < 7) (hi : i < 32) : bt (othI F k) i = (decide (i < f_n F) && othB F k i) := by
  unfold othI othB
  rw [b_and, bt_pre hn hi, bt_not _ hi, bt_one k (by omega) i hi]
  by_cases e : i = k <;> cases bt (f_o F) i <;> simp [e]
theorem othI_N {F : FL} (hn : f_n F ≤ 7) {k : Nat} (hk : k < 7) : othI F k = nI (oN F k) := by
  unfold oN
  rw [← mkb_N _ hn]
  apply b_ext
  intro i hi
  rw [bt_oth hn hk hi, bt_mkb (by omega) hi]
def inO (F : FL) (k s : Nat) : Bool := decide (nI s &&& (othI F k ^^^ (-1)) = 0)
theorem inO_bit {F : FL} (hn : f_n F ≤ 7) {k s i : Nat} (hk : k < 7) (hi : i < 32) (h : inO F k s = true) (hb : bt (nI s) i = true) : i < f_n F ∧ othB F k i = true := by
  have this : bt (nI s &&& (othI F k ^^^ (-1))) i = bt 0 i := by rw [of_decide_eq_true h]
  rw [b_and, bt_not _ hi, b_0, bt_oth hn hk hi, hb] at this
  simpa using this
theorem inO_sub {F : FL} (hn : f_n F ≤ 7) {k s : Nat} (hk : k < 7) (h : inO F k s = true) : subB F s = true := by
  refine decide_eq_true ?_
  apply b_ext
  intro i hi
  rw [b_and, bt_not _ hi, b_0, bt_pre hn hi]
  cases q : bt (nI s) i
  · rfl
  · obtain ⟨h1, h2⟩ := inO_bit hn hk hi h q
    unfold othB at h2
    simp only [Bool.and_eq_true] at h2
    rw [decide_eq_true h1]
    simpa using h2.1
def wdX (F : FL) (k s : Nat) : Int32 := sm (fun i => if othB F k i then (if bt (nI s) i then frc F i else -frc F i) else 0) (f_n F)
def wdW (F : FL) (k s : Nat) : Bool := inO F k s && (decide (¬ wdX F k s + frc F k ≤ 0) && decide (¬ 0 < wdX F k s - frc F k))
def wdN (F : FL) (k : Nat) : Nat := cN (wdW F k) (2 ^ f_n F)
theorem cN_cut {P : Nat → Bool} {m : Nat} : ∀ k, (∀ s, m ≤ s → s < m + k → P s = false) → cN P (m + k) = cN P m
  | 0, _ => rfl
  | k + 1, h => by
    show cN P (m + k) + (if P (m + k) then 1 else 0) = _
    rw [h (m + k) (by omega) (by omega), cN_cut k (fun s h1 h2 => h s h1 (by omega))]; rfl
theorem wdN_cut {F : FL} (hn : f_n F ≤ 7) {k : Nat} (hk : k < 7) : wdN F k = cN (wdW F k) (oN F k + 1) := by
  have h1 : oN F k < 2 ^ f_n F := mkN_lt _ _
  have h7 := pow7 hn
  unfold wdN
  have := cN_cut (P := wdW F k) (m := oN F k + 1) (2 ^ f_n F - (oN F k + 1)) (fun s a b => by
    cases q : inO F k s
    · unfold wdW; rw [q]; rfl
    · have := of_decide_eq_true q
      rw [othI_N hn hk] at this
      have := sub_le (by omega) this
      omega)
  rw [← this, show oN F k + 1 + (2 ^ f_n F - (oN F k + 1)) = 2 ^ f_n F by omega]
theorem wdN_le (F : FL) (hn : f_n F ≤ 7) (k : Nat) : wdN F k ≤ 128 := Nat.le_trans (cN_le _ _) (pow7 hn)
def wdB (F : FL) (k : Nat) (n : Nat) : Int32 := sm (fun i => if othB F k i then -frc F i else 0) n
theorem wd_tot {F : FL} (hn : f_n F ≤ 7) {k s : Nat} (hk : k < 7) (h : inO F k s = true) : wdB F k (f_n F) + gnS (fun i => 2 * frc F i) (f_n F) s = wdX F k s := by
  unfold wdB gnS wdX
  rw [sm_add]
  refine sm_congr (fun i hi => ?_)
  cases q : bt (nI s) i
  · simp
  · obtain ⟨h1, h2⟩ := inO_bit hn hk (by omega) h q
    rw [h2]
    simp only [if_true]
    generalize frc F i = x
    have e : (2 : Int32) = 1 + 1 := by decide
    rw [e, Int32.add_mul, Int32.one_mul, ← Int32.add_assoc, Int32.add_left_neg, Int32.zero_add]
section PW
variable {σ : ST} {F : FL} {R : List Int64} {μ : Mm}
theorem C_ways (ok : OK σ) (hc : CS σ μ) {k : Nat} (hk : k < f_n (s_F σ)) : p_X11_waysDecidedBy (nI k) μ ∧ v_X11_waysDecidedBy (nI k) μ = nI (wdN (s_F σ) k) := by
  have hn := ok.g.1
  have h7 := pow7 hn
  have hoN : oN (s_F σ) k < 2 ^ f_n (s_F σ) := mkN_lt _ _
  have key := lpI (f := fun s : Int32 × Int32 × Int32 × Int32 × Int32 × Mm => bd_X11_waysDecidedBy_22 s.1 s.2.1 s.2.2.1 s.2.2.2.1 s.2.2.2.2.1 s.2.2.2.2.2) (sd := fun s : Int32 × Int32 × Int32 × Int32 × Int32 × Mm => sd_X11_waysDecidedBy_22 s.1 s.2.1 s.2.2.1 s.2.2.2.1 s.2.2.2.2.1 s.2.2.2.2.2) (dd := fun s : Int32 × Int32 × Int32 × Int32 × Int32 × Mm => (0, 0, 0, s.2.2.2.2.2))
    (I := fun i x => i ≤ f_n (s_F σ) ∧ ∃ μ', x = (nI k, othI (s_F σ) k, wdB (s_F σ) k i, (if k < i then frc (s_F σ) k else 0), nI i, μ') ∧ Fr [34] μ μ' ∧ ∀ j, j < i → μ'.1 34 j = 2 * frc (s_F σ) j)
    (R := fun z => z.1 = othI (s_F σ) k ∧ z.2.1 = wdB (s_F σ) k (f_n (s_F σ)) ∧ z.2.2.1 = frc (s_F σ) k ∧ ∀ i, i < f_n (s_F σ) → z.2.2.2.1 34 i = 2 * frc (s_F σ) i) (f_n (s_F σ)) (by omega) ?_ (s0 := (nI k, othI (s_F σ) k, 0, 0, 0, μ)) ⟨Nat.zero_le _, μ, by rw [if_neg (by omega)]; rfl, Fr.rfl, fun j hj => absurd hj (by omega)⟩
  · obtain ⟨k1, k2, k3, k4, k5⟩ := key
    unfold p_X11_waysDecidedBy v_X11_waysDecidedBy
    simp only [forall_eq]
    rw [C_present hc.F]
    have e0 : preA (s_F σ) &&& (1 <<< (nI k &&& 31) ^^^ (-1)) = othI (s_F σ) k := rfl
    rw [e0]
    generalize whl _ _ FU (nI k, othI (s_F σ) k, (0 : Int32), (0 : Int32), (0 : Int32), μ) = z at k2 k3 k4 k5 ⊢
    rw [k2, k3, k4]
    obtain ⟨s1, s2⟩ := start_33 (othI (s_F σ) k) (wdB (s_F σ) k (f_n (s_F σ))) z.2.2.2
    have s3 : (e_X8_start (othI (s_F σ) k) (wdB (s_F σ) k (f_n (s_F σ))) z.2.2.2).1 34 = z.2.2.2.1 34 := (fr_X8_start _ _ _).1 34 (by simp)
    generalize e_X8_start (othI (s_F σ) k) (wdB (s_F σ) k (f_n (s_F σ))) z.2.2.2 = μ3 at s1 s2 s3 ⊢
    have k6 := lpF (f := fun s : Int32 × Int32 × Int32 => bd_X8_waysWithin_4 μ3 s.1 s.2.1 s.2.2) (sd := fun s : Int32 × Int32 × Int32 => sd_X8_waysWithin_4 μ3 s.1 s.2.1 s.2.2) (dd := fun _ : Int32 × Int32 × Int32 => 0) (fun s => (frc (s_F σ) k, nI (cN (wdW (s_F σ) k) s), nI s)) (oN (s_F σ) k + 1) (r := nI (wdN (s_F σ) k)) (by omega) (fun s hs => ⟨?_, ?_⟩) ⟨?_, ?_⟩
    · exact ⟨⟨k1, k6.1⟩, k6.2⟩
    · dsimp only
      unfold sd_X8_waysWithin_4
      rw [s1]
      intro _ hi
      exact (C_total (F := s_F σ) (g := fun i => 2 * frc (s_F σ) i) hn s2 (fun i hi => by rw [s3]; exact k5 i hi) (inO_sub hn (by omega) (decide_eq_true hi))).1
    · dsimp only
      unfold bd_X8_waysWithin_4
      rw [s1]
      have ho := othI_N (F := s_F σ) hn (k := k) (by omega)
      have hlt : ¬ (othI (s_F σ) k < nI s) := by rw [ho]; exact nI_nlt (by omega) (by omega)
      rw [if_neg hlt, nI_1]
      have ec : cN (wdW (s_F σ) k) (s + 1) = cN (wdW (s_F σ) k) s + (if wdW (s_F σ) k s then 1 else 0) := rfl
      rw [ec]
      cases hin : inO (s_F σ) k s
      · have hne : ¬ nI s &&& (othI (s_F σ) k ^^^ (-1)) = 0 := of_decide_eq_false hin
        have hw : wdW (s_F σ) k s = false := by unfold wdW; rw [hin, Bool.false_and]
        rw [if_neg hne, hw]
        simp
      · have hye : nI s &&& (othI (s_F σ) k ^^^ (-1)) = 0 := of_decide_eq_true hin
        have ht := (C_total (F := s_F σ) (μ := μ3) (g := fun i => 2 * frc (s_F σ) i) hn s2 (fun i hi => by rw [s3]; exact k5 i hi) (inO_sub hn (by omega) hin)).2
        rw [if_pos hye, ht, wd_tot hn (by omega) hin]
        have hw : wdW (s_F σ) k s = (decide (¬ wdX (s_F σ) k s + frc (s_F σ) k ≤ 0) && decide (¬ 0 < wdX (s_F σ) k s - frc (s_F σ) k)) := by unfold wdW; rw [hin, Bool.true_and]
        rw [hw]
        generalize wdX (s_F σ) k s + frc (s_F σ) k = x1
        generalize wdX (s_F σ) k s - frc (s_F σ) k = x2
        by_cases q1 : x1 ≤ 0 <;> by_cases q2 : 0 < x2 <;> simp [q1, q2, nI_1]
    · dsimp only
      unfold sd_X8_waysWithin_4
      rw [s1, othI_N hn (by omega)]
      intro y
      exact absurd (nI_lt (by omega) (by omega)) y
    · dsimp only
      unfold bd_X8_waysWithin_4
      have hlt : othI (s_F σ) k < nI (oN (s_F σ) k + 1) := by rw [othI_N hn (by omega)]; exact nI_lt (by omega) (by omega)
      rw [s1, if_pos hlt, wdN_cut hn (by omega)]
  · rintro i _ hi ⟨hi2, μ', rfl, hf, hg⟩
    dsimp only
    have hc' : CS σ μ' := hc.fr hf (by decide)
    unfold sd_X11_waysDecidedBy_22 bd_X11_waysDecidedBy_22
    rw [hc'.F.sz, nI_1]
    simp only [nI_leI (show f_n (s_F σ) < 2 ^ 31 by omega) (show i < 2 ^ 31 by omega), nI_clamp (show i < 2 ^ 31 by omega), nI_eq (show i < 2 ^ 31 by omega) (show k < 2 ^ 31 by omega)]
    rcases Nat.lt_or_ge i (f_n (s_F σ)) with z | z
    · rw [if_neg (show ¬ f_n (s_F σ) ≤ i by omega), (C_load hc'.F z).2, show μ'.1 3 i = f_h (s_F σ) i from hc'.F.h (by omega)]
      have ef : ldF (s_F σ) i * (if 0 ≤ f_h (s_F σ) i then f_h (s_F σ) i else 0 - f_h (s_F σ) i) = frc (s_F σ) i := rfl
      rw [ef]
      have hc2 : CS σ (upI μ' 34 i (2 * frc (s_F σ) i)) := hc'.fr (L := [34]) (Fr.rfl.up (by simp)) (by decide)
      rw [C_isOff hc2.F (by omega)]
      refine ⟨fun _ => ⟨(C_load hc'.F z).1, vp_in_nI (by omega) (by omega), vp_in_nI (by omega) (by omega)⟩, .inl ⟨_, rfl, z, by omega, upI μ' 34 i (2 * frc (s_F σ) i), ?_, hf.up (by simp), fun j hj => ?_⟩⟩
      · have eb : wdB (s_F σ) k (i + 1) = wdB (s_F σ) k i + (if othB (s_F σ) k i then -frc (s_F σ) i else 0) := rfl
        rw [eb]
        unfold othB
        by_cases e : i = k
        · subst e
          rw [if_pos rfl, if_pos rfl, if_pos (show i < i + 1 by omega)]
          simp
        · rw [if_neg e, if_neg e]
          by_cases q : k < i
          · rw [if_pos q, if_pos (show k < i + 1 by omega)]
            cases bt (f_o (s_F σ)) i <;> simp [e, Int32.sub_eq_add_neg]
          · rw [if_neg q, if_neg (show ¬ k < i + 1 by omega)]
            cases bt (f_o (s_F σ)) i <;> simp [e, Int32.sub_eq_add_neg]
      · rw [rI]
        by_cases e : j = i
        · subst e; rw [if_pos ⟨rfl, rfl⟩]
        · rw [if_neg (by omega)]; exact hg j (by omega)
    · have : i = f_n (s_F σ) := by omega
      subst this
      rw [if_pos (Nat.le_refl _), if_pos hk]
      exact ⟨fun y => absurd (Nat.le_refl _) y, .inr ⟨_, rfl, rfl, rfl, rfl, hg⟩⟩
theorem M_force (h : FlM 52 F μ) {i : Nat} (hi : i < f_n F) : p_X12_force (nI i) ∧ v_X12_force (nI i) μ = frc F i := by
  have hn := h.1
  unfold p_X12_force v_X12_force frc
  rw [(M_load h hi).2, nI_clamp (by omega), h.h (by omega)]
  exact ⟨⟨(M_load h hi).1, vp_in_nI (by omega) (by omega)⟩, rfl⟩
theorem M_decided (ok : OK σ) (hm : MS σ μ) {k : Nat} (hk : k < f_n (s_F σ)) : p_X12_decidedBy (nI k) μ ∧ v_X12_decidedBy (nI k) μ = nI (wdN (s_F σ) k) := by
  have hn := ok.g.1
  have h7 := pow7 hn
  unfold p_X12_decidedBy v_X12_decidedBy
  rw [M_here hm.F]
  have e0 : preA (s_F σ) &&& (1 <<< (nI k &&& 31) ^^^ (-1)) = othI (s_F σ) k := rfl
  rw [e0]
  refine lpF (f := fun s : Int32 × Int32 × Int32 × Int32 => bd_X12_decidedBy_20 μ s.1 s.2.1 s.2.2.1 s.2.2.2) (sd := fun s : Int32 × Int32 × Int32 × Int32 => sd_X12_decidedBy_20 μ s.1 s.2.1 s.2.2.1 s.2.2.2) (dd := fun _ : Int32 × Int32 × Int32 × Int32 => 0) (fun s => (nI k, othI (s_F σ) k, nI (cN (wdW (s_F σ) k) s), nI s)) (2 ^ f_n (s_F σ)) (r := nI (wdN (s_F σ) k)) (by omega) (fun s hs => ?_) ⟨?_, ?_⟩
  · have k2 := lpF (f := fun s : Int32 × Int32 × Int32 × Int32 × Int32 × Int32 => bd_X12_decidedBy_35 μ s.1 s.2.1 s.2.2.1 s.2.2.2.1 s.2.2.2.2.1 s.2.2.2.2.2) (sd := fun s : Int32 × Int32 × Int32 × Int32 × Int32 × Int32 => sd_X12_decidedBy_35 μ s.1 s.2.1 s.2.2.1 s.2.2.2.1 s.2.2.2.2.1 s.2.2.2.2.2) (dd := fun _ : Int32 × Int32 × Int32 × Int32 × Int32 × Int32 => (0, 0, 0, 0, 0)) (fun i => (nI k, othI (s_F σ) k, nI (cN (wdW (s_F σ) k) s), nI s, sm (fun i => if othB (s_F σ) k i then (if bt (nI s) i then frc (s_F σ) i else -frc (s_F σ) i) else 0) i, nI i)) (f_n (s_F σ)) (r := (nI k, othI (s_F σ) k, nI (cN (wdW (s_F σ) k) s), nI s, wdX (s_F σ) k s)) (by omega) (fun i hi => ⟨?_, ?_⟩) ⟨?_, ?_⟩
    · obtain ⟨a1, a2⟩ := k2
      dsimp only
      unfold sd_X12_decidedBy_20 bd_X12_decidedBy_20
      rw [all_N hm.F]
      simp only [gt_all hn (show s < 2 ^ 31 by omega), forall_eq]
      have a1' : whP (fun s : Int32 × Int32 × Int32 × Int32 × Int32 × Int32 => bd_X12_decidedBy_35 μ s.1 s.2.1 s.2.2.1 s.2.2.2.1 s.2.2.2.2.1 s.2.2.2.2.2) (fun s : Int32 × Int32 × Int32 × Int32 × Int32 × Int32 => sd_X12_decidedBy_35 μ s.1 s.2.1 s.2.2.1 s.2.2.2.1 s.2.2.2.2.1 s.2.2.2.2.2) FU (nI k, othI (s_F σ) k, nI (cN (wdW (s_F σ) k) s), nI s, 0, 0) := a1
      have a2' : whl (fun s : Int32 × Int32 × Int32 × Int32 × Int32 × Int32 => bd_X12_decidedBy_35 μ s.1 s.2.1 s.2.2.1 s.2.2.2.1 s.2.2.2.2.1 s.2.2.2.2.2) (fun _ : Int32 × Int32 × Int32 × Int32 × Int32 × Int32 => (0, 0, 0, 0, 0)) FU (nI k, othI (s_F σ) k, nI (cN (wdW (s_F σ) k) s), nI s, 0, 0) = (nI k, othI (s_F σ) k, nI (cN (wdW (s_F σ) k) s), nI s, wdX (s_F σ) k s) := a2
      rw [if_neg (show ¬ 2 ^ f_n (s_F σ) ≤ s by omega), a2']
      dsimp only
      rw [(M_force hm.F hk).2, nI_1]
      refine ⟨fun _ => ⟨a1', fun _ => ⟨(M_force hm.F hk).1, fun _ => (M_force hm.F hk).1⟩⟩, ?_⟩
      have ec : cN (wdW (s_F σ) k) (s + 1) = cN (wdW (s_F σ) k) s + (if wdW (s_F σ) k s then 1 else 0) := rfl
      rw [ec]
      have hw : wdW (s_F σ) k s = (decide (nI s &&& (othI (s_F σ) k ^^^ (-1)) = 0) && (decide (¬ wdX (s_F σ) k s + frc (s_F σ) k ≤ 0) && decide (¬ 0 < wdX (s_F σ) k s - frc (s_F σ) k))) := rfl
      rw [hw]
      generalize wdX (s_F σ) k s + frc (s_F σ) k = x1
      generalize wdX (s_F σ) k s - frc (s_F σ) k = x2
      generalize nI s &&& (othI (s_F σ) k ^^^ (-1)) = x3
      by_cases q1 : x1 ≤ 0 <;> by_cases q2 : 0 < x2 <;> by_cases q3 : x3 = 0 <;> simp [q1, q2, q3, nI_1, v_X12_flag]
    · intro _ _; exact ⟨fun _ => (M_force hm.F hi).1, fun _ => (M_force hm.F hi).1⟩
    · show bd_X12_decidedBy_35 μ _ _ _ _ _ (nI i) = _
      unfold bd_X12_decidedBy_35
      rw [hm.F.sz, if_neg (nI_ge hi (by omega)), nI_1, has_b _ (by omega), has_b _ (by omega), bt_oth hn (by omega) (by omega), (M_force hm.F hi).2, decide_eq_true hi]
      simp only [sm, Bool.true_and]
      cases othB (s_F σ) k i <;> cases bt (nI s) i <;> simp
    · intro z; exact absurd (by show μ.1 49 3 ≤ nI (f_n (s_F σ)); rw [hm.F.sz]; exact nI_le (Nat.le_refl _) (by omega)) z
    · show bd_X12_decidedBy_35 μ _ _ _ _ _ (nI (f_n (s_F σ))) = _
      unfold bd_X12_decidedBy_35
      rw [hm.F.sz, if_pos (nI_le (Nat.le_refl _) (by omega))]
      rfl
  · dsimp only
    unfold sd_X12_decidedBy_20
    rw [all_N hm.F]
    simp only [gt_all hn (show 2 ^ f_n (s_F σ) < 2 ^ 31 by omega)]
    exact fun y => absurd (Nat.le_refl _) y
  · dsimp only
    unfold bd_X12_decidedBy_20
    rw [all_N hm.F]
    simp only [gt_all hn (show 2 ^ f_n (s_F σ) < 2 ^ 31 by omega)]
    rw [if_pos (Nat.le_refl _)]
    rfl
/-! power -/
def prN (F : FL) : Nat := cN (fun i => !bt (f_o F) i) (f_n F)
theorem bc_pre {F : FL} (hn : f_n F ≤ 7) : v_J6_bitCount_0f7a4 (preA F) = nI (prN F) := by
  have e : preA F = mkb (fun i => !bt (f_o F) i) (f_n F) := by rw [preA_N hn, mkb_N _ hn]; rfl
  rw [e, bc_mkb _ hn, sm_cN]; rfl
theorem prN_le (F : FL) : prN F ≤ f_n F := cN_le _ _
theorem shl_c : ∀ c, c < 7 → ((1 : Int32) <<< (nI c &&& 31)) = nI (2 ^ c) := by decide +kernel
theorem call_power (h : Sim σ R μ) (x : Int32) : Call (p_X11_power x μ) (p_X12_power x (e_X11_power x μ)) (v_X11_power x μ) (v_X12_power x (e_X11_power x μ)) (e_X12_power x (e_X11_power x μ)) := by
  have fC := fr_X11_power x μ
  have m := h.m1 fC (by decide)
  have hn := h.1.g.1
  refine Two (v := if hasF (s_F σ) x then (if bt (f_o (s_F σ)) x.toNatClampNeg then -2 else 0) else -1) (R' := if hasF (s_F σ) x then (if bt (f_o (s_F σ)) x.toNatClampNeg then R else frT (wdN (s_F σ) x.toNatClampNeg) (2 ^ (prN (s_F σ) - 1))) else R) h fC (fs_X12_power x _) ?_ ?_ (by decide) (by decide)
  · unfold p_X11_power v_X11_power e_X11_power
    rw [C_has h.2.1.F]
    simp only [one0]
    cases hk : hasF (s_F σ) x
    · simp only [Bool.false_eq_true, not_false_eq_true, if_true, if_false]
      exact ⟨fun z => absurd trivial z, trivial, h.2.2.2.1⟩
    · obtain ⟨kc, ke⟩ := hasF_cl hn hk
      simp only [not_true_eq_false, if_true, if_false, forall_eq]
      generalize x.toNatClampNeg = k at kc ke ⊢
      subst ke
      rw [C_isOff h.2.1.F (by omega)]
      simp only [one0]
      cases ho : bt (f_o (s_F σ)) k
      · simp only [Bool.false_eq_true, not_false_eq_true, if_true, if_false]
        obtain ⟨p1, v1⟩ := C_ways h.1 h.2.1 kc
        have f4 : Fr [33, 34] μ (e_X11_waysDecidedBy (nI k) μ) := fr_X11_waysDecidedBy (nI k) μ
        have c4 : CSR σ R (e_X11_waysDecidedBy (nI k) μ) := ⟨h.2.1.fr f4 (by decide), h.2.2.2.1.fr f4 (by decide)⟩
        rw [v1]
        generalize e_X11_waysDecidedBy (nI k) μ = μ4 at c4 ⊢
        have hp : 0 < prN (s_F σ) := cN_pos (P := fun i => !bt (f_o (s_F σ)) i) kc (by simp [ho])
        have hp2 := prN_le (s_F σ)
        have hw := wdN_le (s_F σ) hn k
        have e1 : nI (prN (s_F σ)) - 1 = nI (prN (s_F σ) - 1) := nI_sub (b := 1) (by omega)
        have e2 : (if (0 : Int32) < nI (prN (s_F σ) - 1) then nI (prN (s_F σ) - 1) else 0) = nI (prN (s_F σ) - 1) := by
          by_cases q : (0 : Int32) < nI (prN (s_F σ) - 1)
          · rw [if_pos q]
          · rw [if_neg q]
            have : ¬ (0 < prN (s_F σ) - 1) := fun y => q (nI_lt (a := 0) y (by omega))
            rw [show prN (s_F σ) - 1 = 0 by omega]; rfl
        have hpow : 2 ^ (prN (s_F σ) - 1) ≤ 128 := pow7 (by omega)
        rw [C_present c4.1.F, bc_pre hn, e1, e2, shl_c _ (by omega), nI_l (by omega), nI_l (by omega)]
        obtain ⟨q1, q2⟩ := C_frac c4 (u := wdN (s_F σ) k) (d := 2 ^ (prN (s_F σ) - 1)) (by omega) (by omega) (Nat.pow_pos (by omega))
        exact ⟨fun _ _ => ⟨p1, q1⟩, trivial, q2.2⟩
      · simp only [not_true_eq_false, if_true, if_false]
        exact ⟨fun _ z => absurd z id, trivial, h.2.2.2.1⟩
  · generalize e_X11_power x μ = μa at m ⊢
    unfold p_X12_power v_X12_power e_X12_power
    simp only [forall_eq]
    have hm0 : MSR σ R (upI μa 49 0 0) := ⟨m.1.th 0, m.2.th 0⟩
    generalize upI μa 49 0 0 = μ0 at hm0 ⊢
    rw [M_isOne hm0.1.F, cl21, hm0.1.F.o]
    simp only [one0]
    cases hk : hasF (s_F σ) x
    · simp only [Bool.false_eq_true, not_false_eq_true, if_true, if_false]
      exact ⟨fun z => absurd trivial z, trivial, hm0.2⟩
    · obtain ⟨kc, ke⟩ := hasF_cl hn hk
      simp only [not_true_eq_false, if_true, if_false]
      generalize x.toNatClampNeg = k at kc ke ⊢
      subst ke
      rw [has_b _ (by omega)]
      simp only [one0]
      cases ho : bt (f_o (s_F σ)) k
      · simp only [Bool.false_eq_true, not_false_eq_true, if_true, if_false]
        obtain ⟨p1, v1⟩ := M_decided h.1 hm0.1 kc
        rw [v1]
        have hp : 0 < prN (s_F σ) := cN_pos (P := fun i => !bt (f_o (s_F σ)) i) kc (by simp [ho])
        have hp2 := prN_le (s_F σ)
        have hw := wdN_le (s_F σ) hn k
        have e1 : nI (prN (s_F σ)) - 1 = nI (prN (s_F σ) - 1) := nI_sub (b := 1) (by omega)
        have hpow : 2 ^ (prN (s_F σ) - 1) ≤ 128 := pow7 (by omega)
        rw [M_here hm0.1.F, bc_pre hn, e1, shl_c _ (by omega), nI_l (by omega), nI_l (by omega)]
        obtain ⟨q1, q2⟩ := M_frac hm0 (u := wdN (s_F σ) k) (d := 2 ^ (prN (s_F σ) - 1)) (by omega) (by omega) (Nat.pow_pos (by omega))
        exact ⟨fun _ _ => ⟨p1, q1⟩, rfl, q2.2⟩
      · simp only [not_true_eq_false, if_true, if_false]
        exact ⟨fun _ z => absurd z id, trivial, hm0.2⟩
/-! strongest -/
def stV (σ : ST) (i : Nat) : Int32 := nI (wdN (s_F σ) i)
def stS (σ : ST) (n : Nat) : Int32 := sm (fun i => if bt (f_o (s_F σ)) i then 0 else stV σ i) n
def stT (σ : ST) (R : List Int64) : List Int64 := match bst (spP σ) (stV σ) (f_n (s_F σ)) with
  | none => R
  | some (_, m) => [m.toInt64, (stS σ (f_n (s_F σ))).toInt64]
theorem call_strongest (h : Sim σ R μ) : Call (p_X11_strongest μ) (p_X12_strongest (e_X11_strongest μ)) (v_X11_strongest μ) (v_X12_strongest (e_X11_strongest μ)) (e_X12_strongest (e_X11_strongest μ)) := by
  have fC := fr_X11_strongest μ
  have m := h.m1 fC (by decide)
  have hn := h.1.g.1
  refine Two (v := bI (bst (spP σ) (stV σ) (f_n (s_F σ)))) (R' := stT σ R) h fC (fs_X12_strongest _) ?_ ?_ (by decide) (by decide)
  · have key := lpI (f := fun s : Int32 × Int32 × Int32 × Int32 × Mm => bd_X11_strongest_10 s.1 s.2.1 s.2.2.1 s.2.2.2.1 s.2.2.2.2) (sd := fun s : Int32 × Int32 × Int32 × Int32 × Mm => sd_X11_strongest_10 s.1 s.2.1 s.2.2.1 s.2.2.2.1 s.2.2.2.2) (dd := fun s : Int32 × Int32 × Int32 × Int32 × Mm => (0, 0, 0, s.2.2.2.2))
      (I := fun i s => ∃ μ', s = (bI (bst (spP σ) (stV σ) i), bM (bst (spP σ) (stV σ) i) 0, stS σ i, nI i, μ') ∧ i ≤ f_n (s_F σ) ∧ CSR σ R μ')
      (R := fun z => z.1 = bI (bst (spP σ) (stV σ) (f_n (s_F σ))) ∧ z.2.1 = bM (bst (spP σ) (stV σ) (f_n (s_F σ))) 0 ∧ z.2.2.1 = stS σ (f_n (s_F σ)) ∧ CSR σ R z.2.2.2) (f_n (s_F σ)) (by omega) ?_ (s0 := (-2, 0, 0, 0, μ)) ⟨μ, rfl, Nat.zero_le _, h.2.1, h.2.2.2.1⟩
    · obtain ⟨k1, k2, k3, k4, k5⟩ := key
      unfold p_X11_strongest v_X11_strongest e_X11_strongest stT
      simp only [forall_eq]
      generalize whl _ _ FU _ = z at k2 k3 k4 k5 ⊢
      rw [k2, k3, k4]
      cases hb : bst (spP σ) (stV σ) (f_n (s_F σ)) with
      | none =>
        have e : bI none = -2 := rfl
        rw [e]
        simp only [if_true]
        exact ⟨⟨k1, fun y => absurd trivial y⟩, trivial, k5.2⟩
      | some x =>
        obtain ⟨b, mm⟩ := x
        have hbl := bst_lt hb
        have e : bI (some (b, mm)) = nI b := rfl
        have e2 : bM (some (b, mm)) 0 = mm := rfl
        rw [e, e2, if_neg (nI_nm2 (by omega))]
        obtain ⟨p3, h3⟩ := CSR_add (CSR_begin k5) (by simp) mm.toInt64
        obtain ⟨p5, h5⟩ := CSR_add h3 (by simp) (stS σ (f_n (s_F σ))).toInt64
        exact ⟨⟨k1, fun _ => ⟨p3, p5⟩⟩, rfl, h5.2⟩
    · rintro i _ hi ⟨μ', rfl, hi2, hc'⟩
      dsimp only
      unfold sd_X11_strongest_10 bd_X11_strongest_10
      rw [hc'.1.F.sz, nI_1]
      simp only [nI_leI (show f_n (s_F σ) < 2 ^ 31 by omega) (show i < 2 ^ 31 by omega)]
      rcases Nat.lt_or_ge i (f_n (s_F σ)) with z | z
      · obtain ⟨p1, v1⟩ := C_ways h.1 hc'.1 z
        have f4 : Fr [33, 34] μ' (e_X11_waysDecidedBy (nI i) μ') := fr_X11_waysDecidedBy (nI i) μ'
        have c4 : CSR σ R (e_X11_waysDecidedBy (nI i) μ') := ⟨hc'.1.fr f4 (by decide), hc'.2.fr f4 (by decide)⟩
        have v2 : v_X11_waysDecidedBy (nI i) μ' = stV σ i := v1
        rw [if_neg (show ¬ f_n (s_F σ) ≤ i by omega), C_isOff hc'.1.F (by omega), v2]
        simp only [one0]
        generalize e_X11_waysDecidedBy (nI i) μ' = μ5 at c4 ⊢
        have es : stS σ (i + 1) = stS σ i + (if bt (f_o (s_F σ)) i then 0 else stV σ i) := rfl
        refine ⟨fun _ _ => p1, .inl ⟨_, rfl, z, (if ¬ bt (f_o (s_F σ)) i = true then μ5 else μ'), ?_, by omega, ?_⟩⟩
        · have eb : bst (spP σ) (stV σ) (i + 1) = if spP σ i then (match bst (spP σ) (stV σ) i with
              | none => some (i, stV σ i)
              | some (b, m) => if stV σ i ≤ m then some (b, m) else some (i, stV σ i)) else bst (spP σ) (stV σ) i := rfl
          rw [eb, es]
          have ep : spP σ i = !bt (f_o (s_F σ)) i := rfl
          rw [ep]
          cases ho : bt (f_o (s_F σ)) i
          · simp only [Bool.false_eq_true, not_false_eq_true, if_true, if_false, Bool.not_false]
            cases hb : bst (spP σ) (stV σ) i with
            | none => simp only [bI, bM, if_true]
            | some x =>
              obtain ⟨b, mm⟩ := x
              have hbl := bst_lt hb
              have hb2 := nI_nm2 (show b < 1000 by omega)
              simp only [bI, bM, if_neg hb2]
              by_cases q : stV σ i ≤ mm <;> simp [q, hb2]
          · simp only [not_true_eq_false, if_false, Bool.not_true, Bool.false_eq_true, if_true, Int32.add_zero]
        · by_cases q : bt (f_o (s_F σ)) i = true
          · simp only [q, not_true_eq_false, if_false]; exact hc'
          · simp only [q, if_true, not_false_eq_true]; exact c4
      · have : i = f_n (s_F σ) := by omega
        subst this
        rw [if_pos (Nat.le_refl _)]
        exact ⟨fun y => absurd (Nat.le_refl _) y, .inr ⟨_, rfl, rfl, rfl, rfl, hc'⟩⟩
  · generalize e_X11_strongest μ = μa at m ⊢
    unfold p_X12_strongest v_X12_strongest e_X12_strongest
    simp only [forall_eq]
    have hm0 : MSR σ R (upI μa 49 0 0) := ⟨m.1.th 0, m.2.th 0⟩
    generalize upI μa 49 0 0 = μ0 at hm0 ⊢
    have key := lpF (f := fun s : Int32 × Int32 × Int32 × Int32 => bd_X12_strongest_15 μ0 s.1 s.2.1 s.2.2.1 s.2.2.2) (sd := fun s : Int32 × Int32 × Int32 × Int32 => sd_X12_strongest_15 μ0 s.1 s.2.1 s.2.2.1 s.2.2.2) (dd := fun _ : Int32 × Int32 × Int32 × Int32 => (0, 0, 0)) (fun i => (bI (bst (spP σ) (stV σ) i), bM (bst (spP σ) (stV σ) i) (-1), stS σ i, nI i)) (f_n (s_F σ)) (r := (bI (bst (spP σ) (stV σ) (f_n (s_F σ))), bM (bst (spP σ) (stV σ) (f_n (s_F σ))) (-1), stS σ (f_n (s_F σ)))) (by omega) (fun i hi => ⟨?_, ?_⟩) ⟨?_, ?_⟩
    · obtain ⟨k1, k2⟩ := key
      have k2' : whl (fun s : Int32 × Int32 × Int32 × Int32 => bd_X12_strongest_15 μ0 s.1 s.2.1 s.2.2.1 s.2.2.2) (fun _ : Int32 × Int32 × Int32 × Int32 => (0, 0, 0)) FU (-2, -1, 0, 0) = (bI (bst (spP σ) (stV σ) (f_n (s_F σ))), bM (bst (spP σ) (stV σ) (f_n (s_F σ))) (-1), stS σ (f_n (s_F σ))) := k2
      rw [k2']
      dsimp only
      unfold stT
      cases hb : bst (spP σ) (stV σ) (f_n (s_F σ)) with
      | none =>
        have e : bI none = -2 := rfl
        have e2 : ((-2 : Int32) < 0) := by decide
        rw [e, if_pos e2]
        exact ⟨⟨k1, fun y => absurd e2 y⟩, rfl, hm0.2⟩
      | some x =>
        obtain ⟨b, mm⟩ := x
        have hbl := bst_lt hb
        have e : bI (some (b, mm)) = nI b := rfl
        have e2 : bM (some (b, mm)) (-1) = mm := rfl
        rw [e, e2, if_neg (nI_pos (by omega))]
        obtain ⟨p3, h3⟩ := MSR_add (MSR_begin hm0) (by simp) mm.toInt64
        obtain ⟨p5, h5⟩ := MSR_add h3 (by simp) (stS σ (f_n (s_F σ))).toInt64
        exact ⟨⟨k1, fun _ => ⟨p3, p5⟩⟩, rfl, h5.2⟩
    · intro _ _; exact (M_decided h.1 hm0.1 hi).1
    · show bd_X12_strongest_15 μ0 _ _ _ (nI i) = _
      unfold bd_X12_strongest_15
      have v2 : v_X12_decidedBy (nI i) μ0 = stV σ i := (M_decided h.1 hm0.1 hi).2
      rw [hm0.1.F.sz, if_neg (nI_ge hi (by omega)), nI_1, cl21, hm0.1.F.o, has_b _ (by omega), v2]
      simp only [one0]
      have hw := wdN_le (s_F σ) hn i
      have hst : (stV σ i).toInt = wdN (s_F σ) i := nI_toInt (by omega)
      have es : stS σ (i + 1) = stS σ i + (if bt (f_o (s_F σ)) i then 0 else stV σ i) := rfl
      have eb : bst (spP σ) (stV σ) (i + 1) = if spP σ i then (match bst (spP σ) (stV σ) i with
              | none => some (i, stV σ i)
              | some (b, m) => if stV σ i ≤ m then some (b, m) else some (i, stV σ i)) else bst (spP σ) (stV σ) i := rfl
      have ep : spP σ i = !bt (f_o (s_F σ)) i := rfl
      rw [es, eb, ep]
      have emx : (if 0 < stV σ i then stV σ i else 0) = stV σ i := by
        by_cases q : 0 < stV σ i
        · rw [if_pos q]
        · rw [if_neg q]
          rw [fa_lt, t0] at q
          rw [fa_eq, t0]; omega
      have hmM : ∀ x, bst (spP σ) (stV σ) i = some x → 0 ≤ x.2.toInt := fun x hx => by
        obtain ⟨b, mm⟩ := x
        have hbl := bst_lt hx
        have hw2 := wdN_le (s_F σ) hn b
        show 0 ≤ mm.toInt
        rw [hbl.2.1, show stV σ b = nI (wdN (s_F σ) b) from rfl, nI_toInt (by omega)]; omega
      cases ho : bt (f_o (s_F σ)) i
      · simp only [Bool.false_eq_true, not_false_eq_true, if_true, if_false, Bool.not_false]
        rw [emx]
        cases hb : bst (spP σ) (stV σ) i with
        | none =>
          have g1 : ¬ (stV σ i ≤ -1) := by rw [fa_le, tm1]; omega
          have g2 : (-1 : Int32) < stV σ i := by rw [fa_lt, tm1]; omega
          have e1 : bM (none : Option (Nat × Int32)) (-1) = -1 := rfl
          have e2 : bI none = -2 := rfl
          have e3 : bI (some (i, stV σ i)) = nI i := rfl
          have e4 : bM (some (i, stV σ i)) (-1) = stV σ i := rfl
          dsimp only
          rw [e1, e2, e3, e4, if_neg g1, if_pos g2]
        | some x =>
          obtain ⟨b, mm⟩ := x
          have e1 : bM (some (b, mm)) (-1) = mm := rfl
          have e2 : bI (some (b, mm)) = nI b := rfl
          have e3 : bI (some (i, stV σ i)) = nI i := rfl
          have e4 : bM (some (i, stV σ i)) (-1) = stV σ i := rfl
          dsimp only
          rw [e1, e2]
          by_cases q : stV σ i ≤ mm
          · have q2 : ¬ mm < stV σ i := by rw [fa_lt]; rw [fa_le] at q; omega
            rw [if_pos q, if_neg q2, if_pos q, e1, e2]
          · have q2 : mm < stV σ i := by rw [fa_lt]; rw [fa_le] at q; omega
            rw [if_neg q, if_pos q2, if_neg q, e3, e4]
      · simp only [not_true_eq_false, if_false, Bool.not_true, Bool.false_eq_true, if_true]
        have g0 : ¬ ((0 : Int32) < -1) := by decide
        have hbm : -1 ≤ (bM (bst (spP σ) (stV σ) i) (-1)).toInt := by
          cases hb : bst (spP σ) (stV σ) i with
          | none => show -1 ≤ (-1 : Int32).toInt; rw [tm1]; omega
          | some x =>
            have := hmM x hb
            obtain ⟨b, mm⟩ := x
            show -1 ≤ mm.toInt
            have : 0 ≤ mm.toInt := this
            omega
        have g1 : (-1 : Int32) ≤ bM (bst (spP σ) (stV σ) i) (-1) := by rw [fa_le, tm1]; exact hbm
        have g2 : ¬ bM (bst (spP σ) (stV σ) i) (-1) < -1 := by rw [fa_lt, tm1]; omega
        rw [if_pos g1, if_neg g2, if_neg g0]
    · intro z; exact absurd (by show μ0.1 49 3 ≤ nI (f_n (s_F σ)); rw [hm0.1.F.sz]; exact nI_le (Nat.le_refl _) (by omega)) z
    · show bd_X12_strongest_15 μ0 _ _ _ (nI (f_n (s_F σ))) = _
      unfold bd_X12_strongest_15
      rw [hm0.1.F.sz, if_pos (nI_le (Nat.le_refl _) (by omega))]
end PW

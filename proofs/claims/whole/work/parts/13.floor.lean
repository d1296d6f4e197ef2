/-! reading behind a write; loops by an invariant -/
theorem rI {μ : Mm} {k j : Nat} {v : Int32} {a i : Nat} : (upI μ k j v).1 a i = if a = k ∧ i = j then v else μ.1 a i := by
  unfold upI upd
  by_cases h : a = k
  · subst h
    by_cases h2 : i = j
    · simp [h2]
    · simp [h2]
  · simp [h]
theorem rI2 {μ : Mm} {k j : Nat} {v : Int32} : (upI μ k j v).2 = μ.2 := rfl
theorem rJ {μ : Mm} {k j : Nat} {v : Int64} {a i : Nat} : (upJ μ k j v).2 a i = if a = k ∧ i = j then v else μ.2 a i := by
  unfold upJ vp_updL
  by_cases h : a = k
  · subst h
    by_cases h2 : i = j
    · simp [h2]
    · simp [h2]
  · simp [h]
theorem rJ1 {μ : Mm} {k j : Nat} {v : Int64} : (upJ μ k j v).1 = μ.1 := rfl
theorem rIc {μ : Mm} {k j : Nat} {v : Int32} {a : Nat} (h : a ≠ k) : (upI μ k j v).1 a = μ.1 a := by
  unfold upI
  simp [h]
theorem lpI {σ ρ : Type} {f : σ → σ ⊕ ρ} {dd : σ → ρ} {sd : σ → Prop} {I : Nat → σ → Prop} {R : ρ → Prop} (N : Nat) (hN : N < 5000000000)
    (step : ∀ i s, i ≤ N → I i s → sd s ∧ ((∃ s', f s = .inl s' ∧ i < N ∧ I (i + 1) s') ∨ (∃ r, f s = .inr r ∧ R r))) {s0 : σ} (h0 : I 0 s0) : whP f sd FU s0 ∧ R (whl f dd FU s0) := by
  have key : ∀ k i s, i + k = N → I i s → ∀ M, k < M → whP f sd M s ∧ R (whl f dd M s) := by
    intro k
    induction k with
    | zero =>
      intro i s hi h M hM
      obtain ⟨m, rfl⟩ : ∃ m, M = m + 1 := ⟨M - 1, by omega⟩
      obtain ⟨h1, h2⟩ := step i s (by omega) h
      unfold whP whl
      rcases h2 with ⟨s', e, hl, _⟩ | ⟨r, e, hr⟩
      · omega
      · rw [e]; exact ⟨⟨h1, trivial⟩, hr⟩
    | succ k ih =>
      intro i s hi h M hM
      obtain ⟨m, rfl⟩ : ∃ m, M = m + 1 := ⟨M - 1, by omega⟩
      obtain ⟨h1, h2⟩ := step i s (by omega) h
      unfold whP whl
      rcases h2 with ⟨s', e, hl, h3⟩ | ⟨r, e, hr⟩
      · rw [e]
        have := ih (i + 1) s' (by omega) h3 m (by omega)
        exact ⟨⟨h1, this.1⟩, this.2⟩
      · rw [e]; exact ⟨⟨h1, trivial⟩, hr⟩
  exact key N 0 s0 (by omega) h0 FU (FU_gt hN)
theorem lpF {σ ρ : Type} {f : σ → σ ⊕ ρ} {dd : σ → ρ} {sd : σ → Prop} (st : Nat → σ) (n : Nat) {r : ρ} (hn : n < 5000000000) (hs : ∀ i, i < n → sd (st i) ∧ f (st i) = .inl (st (i + 1))) (he : sd (st n) ∧ f (st n) = .inr r) : whP f sd FU (st 0) ∧ whl f dd FU (st 0) = r := by
  refine lpI (I := fun i s => s = st i) (R := fun z => z = r) n hn (fun i s hi h => ?_) rfl
  subst h
  rcases Nat.lt_or_ge i n with q | q
  · exact ⟨(hs i q).1, .inl ⟨_, (hs i q).2, q, rfl⟩⟩
  · have : i = n := by omega
    subst this
    exact ⟨he.1, .inr ⟨_, he.2, rfl⟩⟩
theorem lq2 {σ ρ σ' ρ' : Type} {f : σ → σ ⊕ ρ} {dd : σ → ρ} {sd : σ → Prop} {f' : σ' → σ' ⊕ ρ'} {dd' : σ' → ρ'} {sd' : σ' → Prop} {I : Nat → σ → σ' → Prop} {R : ρ → ρ' → Prop} (N : Nat) (hN : N < 5000000000)
    (step : ∀ i s s', i ≤ N → I i s s' → sd s ∧ sd' s' ∧ ((∃ t t', f s = .inl t ∧ f' s' = .inl t' ∧ i < N ∧ I (i + 1) t t') ∨ (∃ r r', f s = .inr r ∧ f' s' = .inr r' ∧ R r r'))) {s0 : σ} {s0' : σ'} (h0 : I 0 s0 s0') : whP f sd FU s0 ∧ whP f' sd' FU s0' ∧ R (whl f dd FU s0) (whl f' dd' FU s0') := by
  have key : ∀ k i s s', i + k = N → I i s s' → ∀ M, k < M → whP f sd M s ∧ whP f' sd' M s' ∧ R (whl f dd M s) (whl f' dd' M s') := by
    intro k
    induction k with
    | zero =>
      intro i s s' hi h M hM
      obtain ⟨m, rfl⟩ : ∃ m, M = m + 1 := ⟨M - 1, by omega⟩
      obtain ⟨h1, h1', h2⟩ := step i s s' (by omega) h
      unfold whP whl
      rcases h2 with ⟨t, t', e, e', hl, _⟩ | ⟨r, r', e, e', hr⟩
      · omega
      · rw [e, e']; exact ⟨⟨h1, trivial⟩, ⟨h1', trivial⟩, hr⟩
    | succ k ih =>
      intro i s s' hi h M hM
      obtain ⟨m, rfl⟩ : ∃ m, M = m + 1 := ⟨M - 1, by omega⟩
      obtain ⟨h1, h1', h2⟩ := step i s s' (by omega) h
      unfold whP whl
      rcases h2 with ⟨t, t', e, e', hl, h3⟩ | ⟨r, r', e, e', hr⟩
      · rw [e, e']
        have := ih (i + 1) t t' (by omega) h3 m (by omega)
        exact ⟨⟨h1, this.1⟩, ⟨h1', this.2.1⟩, this.2.2⟩
      · rw [e, e']; exact ⟨⟨h1, trivial⟩, ⟨h1', trivial⟩, hr⟩
  exact key N 0 s0 s0' (by omega) h0 FU (FU_gt hN)
/-! order by numbers -/
theorem fa_lt (a b : Int32) : a < b ↔ a.toInt < b.toInt := Int32.lt_iff_toInt_lt
theorem fa_le (a b : Int32) : a ≤ b ↔ a.toInt ≤ b.toInt := Int32.le_iff_toInt_le
theorem fa_eq (a b : Int32) : a = b ↔ a.toInt = b.toInt := Int32.toInt_inj.symm
theorem fa_lt64 (a b : Int64) : a < b ↔ a.toInt < b.toInt := Int64.lt_iff_toInt_lt
theorem fa_le64 (a b : Int64) : a ≤ b ↔ a.toInt ≤ b.toInt := Int64.le_iff_toInt_le
theorem fa_eq64 (a b : Int64) : a = b ↔ a.toInt = b.toInt := Int64.toInt_inj.symm
theorem in_T (a l h : Int64) : v_X12_in a l h = if l.toInt ≤ a.toInt ∧ a.toInt ≤ h.toInt then 1 else 0 := by
  unfold v_X12_in
  by_cases h1 : a < l
  · rw [if_pos ((lg_cmp_lt a l).mpr h1), if_neg]
    rw [fa_lt64] at h1
    omega
  · rw [if_neg (fun q => h1 ((lg_cmp_lt a l).mp q))]
    by_cases h2 : h < a
    · rw [if_pos ((lg_cmp_gt a h).mpr h2), if_neg]
      rw [fa_lt64] at h2
      omega
    · rw [if_neg (fun q => h2 ((lg_cmp_gt a h).mp q)), if_pos]
      rw [fa_lt64] at h1 h2
      omega
theorem in_I (a l h : Int32) : v_X12_in a.toInt64 l.toInt64 h.toInt64 = if l ≤ a ∧ a ≤ h then 1 else 0 := by
  rw [in_T, Int32.toInt_toInt64, Int32.toInt_toInt64, Int32.toInt_toInt64]
  simp only [fa_le]
theorem flag_0 {c : Prop} [Decidable c] : v_X12_flag (if c then 1 else 0) = if c then 1 else 0 := by
  unfold v_X12_flag
  by_cases h : c
  · rw [if_pos h, if_neg (by decide)]
  · rw [if_neg h, if_pos rfl]
theorem flag_1 {c : Prop} [Decidable c] : v_X12_flag (if c then 0 else 1) = if c then 0 else 1 := by
  unfold v_X12_flag
  by_cases h : c
  · rw [if_pos h, if_pos rfl]
  · rw [if_neg h, if_neg (by decide)]
def dirA (x : Int32) : Int32 := if x ≤ 0 then (if 0 ≤ x then 0 else -1) else 1
theorem dir_C (x : Int32) : v_X11_direction x = dirA x := by
  unfold v_X11_direction dirA
  (repeat' split) <;> rfl
theorem dir_M (x : Int32) : v_X12_side x = dirA x := by
  unfold v_X12_side dirA
  rw [flag_1, flag_1]
  by_cases h1 : x ≤ 0
  · by_cases h2 : 0 ≤ x
    · simp [h1, h2]
    · simp [h1, h2]
  · have h2 : 0 ≤ x := by rw [fa_le] at h1 ⊢; omega
    simp [h1, h2]
theorem isIn_b (s : Int32) {i : Nat} (hi : i < 31) : v_X11_isIn s (nI i) = if bt s i then 1 else 0 := by
  unfold v_X11_isIn
  rw [bt_ask s hi]
  cases bt s i <;> simp
theorem has_b (s : Int32) {i : Nat} (hi : i < 31) : v_X12_has s (nI i) = if bt s i then 1 else 0 := by
  unfold v_X12_has
  rw [bt_ask s hi]
  cases bt s i <;> simp
theorem one0 {c : Prop} [Decidable c] : ((if c then (1 : Int32) else 0) = 0) ↔ ¬ c := by
  by_cases h : c <;> simp [h]
theorem one1 {c : Prop} [Decidable c] : ((if c then (1 : Int32) else 0) = 1) ↔ c := by
  by_cases h : c <;> simp [h]
/-! the floor's parts -/
def f_n (F : FL) : Nat := F.1
def f_w (F : FL) : Nat → Int32 := F.2.1
def f_h (F : FL) : Nat → Int32 := F.2.2.1
def f_p (F : FL) : Nat → Int32 := F.2.2.2.1
def f_k (F : FL) : Nat → Int32 := F.2.2.2.2.1
def f_o (F : FL) : Int32 := F.2.2.2.2.2.1
def f_t (F : FL) : Int32 := F.2.2.2.2.2.2.1
def f_z (F : FL) : Int32 := F.2.2.2.2.2.2.2
def FlC (b : Nat) (F : FL) (μ : Mm) : Prop := f_n F ≤ 7 ∧ μ.1 b 0 = nI (f_n F) ∧ (∀ i, i < 7 → μ.1 (b + 1) i = f_w F i) ∧ (∀ i, i < 7 → μ.1 (b + 2) i = f_h F i) ∧ (∀ i, i < 7 → μ.1 (b + 3) i = f_p F i) ∧ (∀ i, i < 7 → μ.1 (b + 4) i = f_k F i) ∧ μ.1 b 5 = f_o F ∧ μ.1 b 6 = f_t F ∧ μ.1 b 7 = f_z F
def FlM (r : Nat) (F : FL) (μ : Mm) : Prop := f_n F ≤ 7 ∧ μ.1 49 3 = nI (f_n F) ∧ (∀ i, i < 7 → μ.1 51 i = f_w F i) ∧ (∀ i, i < 7 → μ.1 r i = f_h F i) ∧ (∀ i, i < 7 → μ.1 r (7 + i) = f_p F i) ∧ (∀ i, i < 7 → μ.1 r (14 + i) = f_k F i) ∧ μ.1 r 21 = f_o F ∧ μ.1 r 22 = f_t F ∧ μ.1 r 23 = f_z F
theorem FlC.fr {b : Nat} {F : FL} {μ μ' : Mm} {S : List Nat} (h : FlC b F μ) (f : Fr S μ μ') (hb : b ∉ S ∧ b + 1 ∉ S ∧ b + 2 ∉ S ∧ b + 3 ∉ S ∧ b + 4 ∉ S) : FlC b F μ' := by
  obtain ⟨b0, b1, b2, b3, b4⟩ := hb
  unfold FlC
  rw [f.1 b b0, f.1 _ b1, f.1 _ b2, f.1 _ b3, f.1 _ b4]
  exact h
theorem FlC.fs {b : Nat} {F : FL} {μ μ' : Mm} {S : List Nat} (h : FlC b F μ) (f : Fs S μ μ') (hb : b ∉ S ∧ b + 1 ∉ S ∧ b + 2 ∉ S ∧ b + 3 ∉ S ∧ b + 4 ∉ S) (h9 : b + 4 < 49) : FlC b F μ' := by
  obtain ⟨b0, b1, b2, b3, b4⟩ := hb
  have e0 : ∀ j, μ'.1 b j = μ.1 b j := fun j => f.1 b j b0 (.inl (by omega))
  have e1 : ∀ j, μ'.1 (b + 1) j = μ.1 (b + 1) j := fun j => f.1 _ j b1 (.inl (by omega))
  have e2 : ∀ j, μ'.1 (b + 2) j = μ.1 (b + 2) j := fun j => f.1 _ j b2 (.inl (by omega))
  have e3 : ∀ j, μ'.1 (b + 3) j = μ.1 (b + 3) j := fun j => f.1 _ j b3 (.inl (by omega))
  have e4 : ∀ j, μ'.1 (b + 4) j = μ.1 (b + 4) j := fun j => f.1 _ j b4 (.inl (by omega))
  unfold FlC
  simp only [e0, e1, e2, e3, e4]
  exact h
theorem FlM.fs {r : Nat} {F : FL} {μ μ' : Mm} {S : List Nat} (h : FlM r F μ) (f : Fs S μ μ') (hb : r ∉ S ∧ r ≠ 49 ∧ 51 ∉ S ∧ 49 ∉ S ∧ 1003 ∉ S) : FlM r F μ' := by
  obtain ⟨b0, b1, b2, b3, b4⟩ := hb
  have hr : ∀ j, μ'.1 r j = μ.1 r j := fun j => f.1 r j b0 (.inl b1)
  have hw : ∀ j, μ'.1 51 j = μ.1 51 j := fun j => f.1 51 j b2 (.inl (by decide))
  have hm : μ'.1 49 3 = μ.1 49 3 := f.1 49 3 b3 (.inr b4)
  unfold FlM
  simp only [hr, hw, hm]
  exact h
/-! sums and sets -/
def sm (g : Nat → Int32) : Nat → Int32
  | 0 => 0
  | n + 1 => sm g n + g n
theorem sm_congr {f g : Nat → Int32} : ∀ {n : Nat}, (∀ i, i < n → f i = g i) → sm f n = sm g n
  | 0, _ => rfl
  | n + 1, h => by
    show sm f n + f n = sm g n + g n
    rw [sm_congr (fun i hi => h i (by omega)), h n (by omega)]
def mkb (g : Nat → Bool) : Nat → Int32
  | 0 => 0
  | n + 1 => mkb g n ||| (if g n then 1 <<< (nI n &&& 31) else 0)
theorem bt_mkb {g : Nat → Bool} : ∀ {n : Nat}, n ≤ 31 → ∀ {j : Nat}, j < 32 → bt (mkb g n) j = (decide (j < n) && g j)
  | 0, _, j, _ => by
    show bt 0 j = _
    rw [b_0]; simp
  | n + 1, hn, j, hj => by
    show bt (mkb g n ||| (if g n then 1 <<< (nI n &&& 31) else 0)) j = _
    rw [b_or, bt_mkb (by omega) hj]
    cases hg : g n
    · simp only [Bool.false_eq_true, if_false, b_0, Bool.or_false]
      by_cases e : j = n
      · subst e; simp [hg]
      · by_cases q : j < n
        · simp [q, show j < n + 1 by omega]
        · simp [q, show ¬ j < n + 1 by omega]
    · simp only [if_true, bt_one n (by omega) j hj]
      by_cases e : j = n
      · subst e; simp [hg]
      · by_cases q : j < n
        · simp [q, e, show j < n + 1 by omega]
        · simp [q, e, show ¬ j < n + 1 by omega]
theorem mkb_congr {f g : Nat → Bool} : ∀ {n : Nat}, (∀ i, i < n → f i = g i) → mkb f n = mkb g n
  | 0, _ => rfl
  | n + 1, h => by
    show mkb f n ||| _ = mkb g n ||| _
    rw [mkb_congr (fun i hi => h i (by omega)), h n (by omega)]
def ldF (F : FL) (i : Nat) : Int32 := f_w F i + f_k F i
def preA (F : FL) : Int32 := (((1 : Int32) <<< (nI (f_n F) &&& 31)) - 1) &&& (f_o F ^^^ (-1))
theorem bt_pre {F : FL} (hn : f_n F ≤ 7) {i : Nat} (hi : i < 32) : bt (preA F) i = (decide (i < f_n F) && !bt (f_o F) i) := by
  unfold preA
  rw [b_and, bt_all _ hn i hi, bt_not _ hi]
def momA (F : FL) : Int32 := sm (fun i => if bt (f_o F) i then 0 else ldF F i * f_p F i) (f_n F)
def momO (F : FL) (s : Int32) : Int32 := sm (fun i => if bt s i && !bt (f_o F) i then ldF F i * f_p F i else 0) (f_n F)
def lodO (F : FL) (s : Int32) : Int32 := sm (fun i => if bt s i && !bt (f_o F) i then ldF F i else 0) (f_n F)
def lodI (F : FL) (s : Int32) : Int32 := sm (fun i => if bt s i then ldF F i else 0) (f_n F)
def carA (F : FL) : Int32 := sm (fun i => if bt (f_o F) i then 0 else ldF F i * f_h F i) (f_n F)
def staA (F : FL) (p : Int32) : Int32 := mkb (fun i => !bt (f_o F) i && decide (f_p F i = p)) (f_n F)
def hasF (F : FL) (x : Int32) : Bool := decide (0 ≤ x ∧ x < nI (f_n F))
theorem hasF_ix {F : FL} {x : Int32} (hn : f_n F ≤ 7) (h : hasF F x = true) : ∃ i, i < f_n F ∧ x = nI i := by
  unfold hasF at h
  simp only [decide_eq_true_eq] at h
  have h0 : ¬ x < 0 := by
    have := h.1
    rw [fa_le] at this
    rw [fa_lt]
    omega
  obtain ⟨j, hj, rfl⟩ := nI_of h0
  exact ⟨j, (nI_ltI hj (by omega)).mp h.2, rfl⟩
/-! the class's leaves -/
section CL
variable {b : Nat} {F : FL} {μ : Mm}
theorem C_has (h : FlC b F μ) (x : Int32) : v_X1_has b x μ = if hasF F x then 1 else 0 := by
  unfold v_X1_has hasF
  rw [h.2.1]
  by_cases h1 : x < 0
  · have : ¬ 0 ≤ x := by rw [fa_le]; rw [fa_lt] at h1; omega
    simp [h1, this]
  · have h2 : 0 ≤ x := by rw [fa_le]; rw [fa_lt] at h1; omega
    by_cases h3 : nI (f_n F) ≤ x
    · have : ¬ x < nI (f_n F) := by rw [fa_lt]; rw [fa_le] at h3; omega
      simp [h1, h2, h3, this]
    · have : x < nI (f_n F) := by rw [fa_lt]; rw [fa_le] at h3; omega
      simp [h1, h2, h3, this]
theorem hasF_nI {i : Nat} (hn : f_n F ≤ 7) (hi : i < f_n F) : hasF F (nI i) = true := by
  unfold hasF
  simp only [decide_eq_true_eq]
  exact ⟨nI_pos' (by omega), nI_lt hi (by omega)⟩
theorem C_has1 (h : FlC b F μ) {i : Nat} (hi : i < f_n F) : v_X1_has b (nI i) μ = 1 := by
  rw [C_has h, hasF_nI h.1 hi]; rfl
theorem C_isOff (h : FlC b F μ) {i : Nat} (hi : i < 31) : v_X1_isOff b (nI i) μ = if bt (f_o F) i then 1 else 0 := by
  unfold v_X1_isOff
  rw [h.2.2.2.2.2.2.1, bt_ask _ hi]
  cases bt (f_o F) i <;> simp
theorem C_load (h : FlC b F μ) {i : Nat} (hi : i < f_n F) : p_X1_load b (nI i) μ ∧ v_X1_load b (nI i) μ = ldF F i := by
  have hn := h.1
  unfold p_X1_load v_X1_load ldF
  rw [C_has1 h hi, nI_clamp (by omega), h.2.2.1 i (by omega), h.2.2.2.2.2.1 i (by omega)]
  exact ⟨fun _ => ⟨vp_in_nI (by omega) (by omega), vp_in_nI (by omega) (by omega)⟩, if_neg (by decide)⟩
theorem C_placeOf (h : FlC b F μ) {i : Nat} (hi : i < f_n F) : p_X1_placeOf b (nI i) μ ∧ v_X1_placeOf b (nI i) μ = f_p F i := by
  have hn := h.1
  unfold p_X1_placeOf v_X1_placeOf
  rw [C_has1 h hi, nI_clamp (by omega), h.2.2.2.2.1 i (by omega)]
  exact ⟨fun _ => vp_in_nI (by omega) (by omega), if_neg (by decide)⟩
theorem C_present (h : FlC b F μ) : v_X1_present b μ = preA F := by
  unfold v_X1_present preA
  rw [h.2.1, h.2.2.2.2.2.2.1]
theorem C_moment (h : FlC b F μ) : p_X1_moment b μ ∧ v_X1_moment b μ = momA F := by
  have hn := h.1
  refine lpF (f := fun s : Int32 × Int32 => bd_X1_moment_4 b μ s.1 s.2) (sd := fun s : Int32 × Int32 => sd_X1_moment_4 b μ s.1 s.2) (dd := fun _ : Int32 × Int32 => 0)
    (fun i => (sm (fun i => if bt (f_o F) i then 0 else ldF F i * f_p F i) i, nI i)) (f_n F) (r := momA F) (by omega) (fun i hi => ⟨?_, ?_⟩) ⟨?_, ?_⟩
  · intro _ _; exact ⟨vp_in_nI (by omega) (by omega), vp_in_nI (by omega) (by omega), vp_in_nI (by omega) (by omega)⟩
  · show bd_X1_moment_4 b μ _ (nI i) = _
    unfold bd_X1_moment_4
    rw [h.2.1, if_neg (nI_ge hi (by omega)), nI_1, nI_clamp (by omega), h.2.2.1 i (by omega), h.2.2.2.2.1 i (by omega), h.2.2.2.2.2.1 i (by omega), h.2.2.2.2.2.2.1, bt_ask _ (by omega)]
    simp only [sm, ldF]
    cases bt (f_o F) i <;> simp
  · intro z; exact absurd (by show μ.1 b 0 ≤ nI (f_n F); rw [h.2.1]; exact nI_le (Nat.le_refl _) (by omega)) z
  · show bd_X1_moment_4 b μ _ (nI (f_n F)) = _
    unfold bd_X1_moment_4
    rw [h.2.1, if_pos (nI_le (Nat.le_refl _) (by omega))]
    rfl
theorem C_care (h : FlC b F μ) : p_X1_care b μ ∧ v_X1_care b μ = carA F := by
  have hn := h.1
  refine lpF (f := fun s : Int32 × Int32 => bd_X1_care_4 b μ s.1 s.2) (sd := fun s : Int32 × Int32 => sd_X1_care_4 b μ s.1 s.2) (dd := fun _ : Int32 × Int32 => 0)
    (fun i => (sm (fun i => if bt (f_o F) i then 0 else ldF F i * f_h F i) i, nI i)) (f_n F) (r := carA F) (by omega) (fun i hi => ⟨?_, ?_⟩) ⟨?_, ?_⟩
  · intro _ _; exact ⟨(C_load h hi).1, vp_in_nI (by omega) (by omega)⟩
  · show bd_X1_care_4 b μ _ (nI i) = _
    unfold bd_X1_care_4
    rw [h.2.1, if_neg (nI_ge hi (by omega)), nI_1, nI_clamp (by omega), C_isOff h (by omega), (C_load h hi).2, h.2.2.2.1 i (by omega)]
    simp only [sm]
    cases bt (f_o F) i <;> simp
  · intro z; exact absurd (by show μ.1 b 0 ≤ nI (f_n F); rw [h.2.1]; exact nI_le (Nat.le_refl _) (by omega)) z
  · show bd_X1_care_4 b μ _ (nI (f_n F)) = _
    unfold bd_X1_care_4
    rw [h.2.1, if_pos (nI_le (Nat.le_refl _) (by omega))]
    rfl
theorem C_loadOf (h : FlC b F μ) (s : Int32) : p_X1_loadOf b s μ ∧ v_X1_loadOf b s μ = lodI F s := by
  have hn := h.1
  refine lpF (f := fun s : Int32 × Int32 × Int32 => bd_X1_loadOf_4 b μ s.1 s.2.1 s.2.2) (sd := fun s : Int32 × Int32 × Int32 => sd_X1_loadOf_4 b μ s.1 s.2.1 s.2.2) (dd := fun _ : Int32 × Int32 × Int32 => 0)
    (fun i => (s, sm (fun i => if bt s i then ldF F i else 0) i, nI i)) (f_n F) (r := lodI F s) (by omega) (fun i hi => ⟨?_, ?_⟩) ⟨?_, ?_⟩
  · intro _ _; exact ⟨vp_in_nI (by omega) (by omega), vp_in_nI (by omega) (by omega)⟩
  · show bd_X1_loadOf_4 b μ _ _ (nI i) = _
    unfold bd_X1_loadOf_4
    rw [h.2.1, if_neg (nI_ge hi (by omega)), nI_1, nI_clamp (by omega), isIn_b _ (by omega), h.2.2.1 i (by omega), h.2.2.2.2.2.1 i (by omega)]
    simp only [sm, ldF]
    cases bt s i <;> simp
  · intro z; exact absurd (by show μ.1 b 0 ≤ nI (f_n F); rw [h.2.1]; exact nI_le (Nat.le_refl _) (by omega)) z
  · show bd_X1_loadOf_4 b μ _ _ (nI (f_n F)) = _
    unfold bd_X1_loadOf_4
    rw [h.2.1, if_pos (nI_le (Nat.le_refl _) (by omega))]
    rfl
theorem C_standingOn (h : FlC b F μ) (p : Int32) : p_X1_standingOn b p μ ∧ v_X1_standingOn b p μ = staA F p := by
  have hn := h.1
  refine lpF (f := fun s : Int32 × Int32 × Int32 => bd_X1_standingOn_4 b μ s.1 s.2.1 s.2.2) (sd := fun s : Int32 × Int32 × Int32 => sd_X1_standingOn_4 b μ s.1 s.2.1 s.2.2) (dd := fun _ : Int32 × Int32 × Int32 => 0)
    (fun i => (p, mkb (fun i => !bt (f_o F) i && decide (f_p F i = p)) i, nI i)) (f_n F) (r := staA F p) (by omega) (fun i hi => ⟨?_, ?_⟩) ⟨?_, ?_⟩
  · intro _ _; exact vp_in_nI (by omega) (by omega)
  · show bd_X1_standingOn_4 b μ _ _ (nI i) = _
    unfold bd_X1_standingOn_4
    rw [h.2.1, if_neg (nI_ge hi (by omega)), nI_1, nI_clamp (by omega), C_isOff h (by omega), h.2.2.2.2.1 i (by omega)]
    simp only [mkb]
    rcases Bool.eq_false_or_eq_true (bt (f_o F) i) with hb | hb <;> by_cases hp : f_p F i = p <;> simp [hb, hp]
  · intro z; exact absurd (by show μ.1 b 0 ≤ nI (f_n F); rw [h.2.1]; exact nI_le (Nat.le_refl _) (by omega)) z
  · show bd_X1_standingOn_4 b μ _ _ (nI (f_n F)) = _
    unfold bd_X1_standingOn_4
    rw [h.2.1, if_pos (nI_le (Nat.le_refl _) (by omega))]
    rfl
end CL
/-! the model's leaves -/
theorem cl7 {i : Nat} (h : i < 1000) : Int32.toNatClampNeg ((7 : Int32) + nI i) = 7 + i := by
  rw [show (7 : Int32) = nI 7 from rfl, nI_add, nI_clamp (by omega)]
theorem cl14 {i : Nat} (h : i < 1000) : Int32.toNatClampNeg ((14 : Int32) + nI i) = 14 + i := by
  rw [show (14 : Int32) = nI 14 from rfl, nI_add, nI_clamp (by omega)]
theorem cl21 : Int32.toNatClampNeg (21 : Int32) = 21 := by decide +kernel
theorem cl22 : Int32.toNatClampNeg (22 : Int32) = 22 := by decide +kernel
theorem cl23 : Int32.toNatClampNeg (23 : Int32) = 23 := by decide +kernel
theorem in7 {i : Nat} (h : i < 17) : vp_in ((7 : Int32) + nI i) 24 := by
  rw [show (7 : Int32) = nI 7 from rfl, nI_add]
  exact vp_in_nI (by omega) (by omega)
theorem in14 {i : Nat} (h : i < 10) : vp_in ((14 : Int32) + nI i) 24 := by
  rw [show (14 : Int32) = nI 14 from rfl, nI_add]
  exact vp_in_nI (by omega) (by omega)
section ML
variable {r : Nat} {F : FL} {μ : Mm}
theorem nIpred {n : Nat} (h : n ≤ 7) : (nI n - 1).toInt = (n : Int) - 1 := by
  have : ∀ n, n ≤ 7 → (nI n - 1).toInt = (n : Int) - 1 := by decide +kernel
  exact this n h
theorem M_isOne (h : FlM r F μ) (x : Int32) : v_X12_isOne x μ = if hasF F x then 1 else 0 := by
  have hn := h.1
  unfold v_X12_isOne hasF
  rw [h.2.1, in_T, Int32.toInt_toInt64, Int32.toInt_toInt64, nIpred hn, show (0 : Int64).toInt = 0 by decide +kernel]
  have h0 : (0 : Int32).toInt = 0 := by decide +kernel
  simp only [decide_eq_true_eq, fa_le, fa_lt, nI_toInt (show f_n F < 2 ^ 31 by omega), h0]
  by_cases q : 0 ≤ x.toInt ∧ x.toInt < (f_n F : Int)
  · rw [if_pos q, if_pos (by omega)]
  · rw [if_neg q, if_neg (by omega)]
theorem M_all (h : FlM r F μ) {i : Nat} (hi : i < 32) : bt (v_X12_all μ) i = decide (i < f_n F) := by
  unfold v_X12_all
  rw [h.2.1, bt_all _ h.1 i hi]
theorem M_here (h : FlM r F μ) : v_X12_here r μ = preA F := by
  unfold v_X12_here v_X12_all preA
  rw [h.2.1, cl21, h.2.2.2.2.2.2.1]
theorem M_load (h : FlM r F μ) {i : Nat} (hi : i < f_n F) : p_X12_load r (nI i) ∧ v_X12_load r (nI i) μ = ldF F i := by
  have hn := h.1
  unfold p_X12_load v_X12_load ldF
  rw [nI_clamp (by omega), cl14 (by omega), h.2.2.1 i (by omega), h.2.2.2.2.2.1 i (by omega)]
  exact ⟨⟨vp_in_nI (by omega) (by omega), in14 (by omega)⟩, rfl⟩
theorem M_momentOf (h : FlM r F μ) (s : Int32) : p_X12_momentOf r s μ ∧ v_X12_momentOf r s μ = momO F s := by
  have hn := h.1
  refine lpF (f := fun s : Int32 × Int32 × Int32 => bd_X12_momentOf_5 r μ s.1 s.2.1 s.2.2) (sd := fun s : Int32 × Int32 × Int32 => sd_X12_momentOf_5 r μ s.1 s.2.1 s.2.2) (dd := fun _ : Int32 × Int32 × Int32 => 0)
    (fun i => (s, sm (fun i => if bt s i && !bt (f_o F) i then ldF F i * f_p F i else 0) i, nI i)) (f_n F) (r := momO F s) (by omega) (fun i hi => ⟨?_, ?_⟩) ⟨?_, ?_⟩
  · intro _ _; exact ⟨(M_load h hi).1, in7 (by omega)⟩
  · show bd_X12_momentOf_5 r μ _ _ (nI i) = _
    unfold bd_X12_momentOf_5
    rw [h.2.1, if_neg (nI_ge hi (by omega)), nI_1, has_b _ (by omega), b_and, M_here h, bt_pre hn (by omega), (M_load h hi).2, cl7 (by omega), h.2.2.2.2.1 i (by omega)]
    simp only [sm, hi]
    cases bt s i <;> cases bt (f_o F) i <;> simp
  · intro z; exact absurd (by show μ.1 49 3 ≤ nI (f_n F); rw [h.2.1]; exact nI_le (Nat.le_refl _) (by omega)) z
  · show bd_X12_momentOf_5 r μ _ _ (nI (f_n F)) = _
    unfold bd_X12_momentOf_5
    rw [h.2.1, if_pos (nI_le (Nat.le_refl _) (by omega))]
    rfl
theorem M_loadOf (h : FlM r F μ) (s : Int32) : p_X12_loadOf r s μ ∧ v_X12_loadOf r s μ = lodO F s := by
  have hn := h.1
  refine lpF (f := fun s : Int32 × Int32 × Int32 => bd_X12_loadOf_5 r μ s.1 s.2.1 s.2.2) (sd := fun s : Int32 × Int32 × Int32 => sd_X12_loadOf_5 r μ s.1 s.2.1 s.2.2) (dd := fun _ : Int32 × Int32 × Int32 => 0)
    (fun i => (s, sm (fun i => if bt s i && !bt (f_o F) i then ldF F i else 0) i, nI i)) (f_n F) (r := lodO F s) (by omega) (fun i hi => ⟨?_, ?_⟩) ⟨?_, ?_⟩
  · intro _ _; exact (M_load h hi).1
  · show bd_X12_loadOf_5 r μ _ _ (nI i) = _
    unfold bd_X12_loadOf_5
    rw [h.2.1, if_neg (nI_ge hi (by omega)), nI_1, has_b _ (by omega), b_and, M_here h, bt_pre hn (by omega), (M_load h hi).2]
    simp only [sm, hi]
    cases bt s i <;> cases bt (f_o F) i <;> simp
  · intro z; exact absurd (by show μ.1 49 3 ≤ nI (f_n F); rw [h.2.1]; exact nI_le (Nat.le_refl _) (by omega)) z
  · show bd_X12_loadOf_5 r μ _ _ (nI (f_n F)) = _
    unfold bd_X12_loadOf_5
    rw [h.2.1, if_pos (nI_le (Nat.le_refl _) (by omega))]
    rfl
theorem M_moment (h : FlM r F μ) : p_X12_moment r μ ∧ v_X12_moment r μ = momA F := by
  refine ⟨(M_momentOf h _).1, (M_momentOf h _).2.trans ?_⟩
  unfold momO momA
  refine sm_congr (fun i hi => ?_)
  have hn := h.1
  rw [M_all h (by omega), decide_eq_true hi]
  cases bt (f_o F) i <;> simp
theorem M_standingOn (h : FlM r F μ) (p : Int32) : p_X12_standingOn r p μ ∧ v_X12_standingOn r p μ = staA F p := by
  have hn := h.1
  refine lpF (f := fun s : Int32 × Int32 × Int32 => bd_X12_standingOn_5 r μ s.1 s.2.1 s.2.2) (sd := fun s : Int32 × Int32 × Int32 => sd_X12_standingOn_5 r μ s.1 s.2.1 s.2.2) (dd := fun _ : Int32 × Int32 × Int32 => 0)
    (fun i => (p, mkb (fun i => !bt (f_o F) i && decide (f_p F i = p)) i, nI i)) (f_n F) (r := staA F p) (by omega) (fun i hi => ⟨?_, ?_⟩) ⟨?_, ?_⟩
  · intro _ _; exact in7 (by omega)
  · show bd_X12_standingOn_5 r μ _ _ (nI i) = _
    unfold bd_X12_standingOn_5
    rw [h.2.1, if_neg (nI_ge hi (by omega)), nI_1, has_b _ (by omega), M_here h, bt_pre hn (by omega), cl7 (by omega), h.2.2.2.2.1 i (by omega)]
    simp only [mkb, hi]
    rcases Bool.eq_false_or_eq_true (bt (f_o F) i) with hb | hb <;> by_cases hp : f_p F i = p <;> simp [hb, hp]
  · intro z; exact absurd (by show μ.1 49 3 ≤ nI (f_n F); rw [h.2.1]; exact nI_le (Nat.le_refl _) (by omega)) z
  · show bd_X12_standingOn_5 r μ _ _ (nI (f_n F)) = _
    unfold bd_X12_standingOn_5
    rw [h.2.1, if_pos (nI_le (Nat.le_refl _) (by omega))]
    rfl
def othA (F : FL) (k : Nat) : Int32 := sm (fun j => if j ≠ k ∧ bt (f_o F) j = false ∧ f_p F j = f_p F k then 1 else 0) (f_n F)
theorem M_othersOn (h : FlM r F μ) {k : Nat} (hk : k < f_n F) : p_X12_othersOn r (nI k) μ ∧ v_X12_othersOn r (nI k) μ = othA F k := by
  have hn := h.1
  refine lpF (f := fun s : Int32 × Int32 × Int32 => bd_X12_othersOn_5 r μ s.1 s.2.1 s.2.2) (sd := fun s : Int32 × Int32 × Int32 => sd_X12_othersOn_5 r μ s.1 s.2.1 s.2.2) (dd := fun _ : Int32 × Int32 × Int32 => 0)
    (fun i => (nI k, sm (fun j => if j ≠ k ∧ bt (f_o F) j = false ∧ f_p F j = f_p F k then 1 else 0) i, nI i)) (f_n F) (r := othA F k) (by omega) (fun i hi => ⟨?_, ?_⟩) ⟨?_, ?_⟩
  · intro _ _ _; exact ⟨in7 (by omega), in7 (by omega)⟩
  · show bd_X12_othersOn_5 r μ _ _ (nI i) = _
    unfold bd_X12_othersOn_5
    rw [h.2.1, if_neg (nI_ge hi (by omega)), nI_1, has_b _ (by omega), M_here h, bt_pre hn (by omega), cl7 (by omega), h.2.2.2.2.1 i (by omega), cl7 (by omega), h.2.2.2.2.1 k (by omega)]
    simp only [sm, hi, nI_eq (show i < 2 ^ 31 by omega) (show k < 2 ^ 31 by omega)]
    by_cases e : i = k <;> cases bt (f_o F) i <;> by_cases hp : f_p F i = f_p F k <;> simp [e, hp, v_X12_flag]
  · intro z; exact absurd (by show μ.1 49 3 ≤ nI (f_n F); rw [h.2.1]; exact nI_le (Nat.le_refl _) (by omega)) z
  · show bd_X12_othersOn_5 r μ _ _ (nI (f_n F)) = _
    unfold bd_X12_othersOn_5
    rw [h.2.1, if_pos (nI_le (Nat.le_refl _) (by omega))]
    rfl
end ML

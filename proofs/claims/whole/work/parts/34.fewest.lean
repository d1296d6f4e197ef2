/-! the fewest: wall, canvass, clears, just -/
def fewV (o : Option Nat) : Int32 := match o with
  | none => -2
  | some b => bcN b
def fewT (o : Option Nat) (R : List Int64) : List Int64 := match o with
  | none => R
  | some b => [(nI b).toInt64]
def bsM (o : Option Nat) : Int32 := match o with
  | none => -1
  | some b => nI b
theorem gnS_add {f g : Nat → Int32} (n s : Nat) : gnS (fun i => f i + g i) n s = gnS f n s + gnS g n s := by
  unfold gnS
  rw [sm_add]
  refine sm_congr (fun i _ => ?_)
  cases bt (nI s) i
  · simp
  · simp
theorem gnS_mul (c : Int32) {f : Nat → Int32} (n s : Nat) : gnS (fun i => c * f i) n s = c * gnS f n s := by
  unfold gnS
  rw [sm_mul]
  refine sm_congr (fun i _ => ?_)
  cases bt (nI s) i
  · simp
  · simp
theorem gnS_neg {f : Nat → Int32} (n s : Nat) : gnS (fun i => -f i) n s = -gnS f n s := by
  unfold gnS
  refine sm_neg (fun i _ => ?_)
  cases bt (nI s) i
  · simp
  · simp
theorem gnS_congr {f g : Nat → Int32} {n s : Nat} (h : ∀ i, i < n → f i = g i) : gnS f n s = gnS g n s := by
  unfold gnS
  exact sm_congr (fun i hi => by rw [h i hi])
theorem momO_s {F : FL} (hn : f_n F ≤ 7) {s : Nat} (h : subB F s = true) : momO F (nI s) = gnS (fun i => ldF F i * f_p F i) (f_n F) s := by
  unfold momO gnS
  refine sm_congr (fun i hi => ?_)
  cases q : bt (nI s) i
  · simp
  · rw [(subB_bit hn (by omega) h q).2]; simp
theorem lodO_s {F : FL} (hn : f_n F ≤ 7) {s : Nat} (h : subB F s = true) : lodO F (nI s) = gnS (fun i => ldF F i) (f_n F) s := by
  unfold lodO gnS
  refine sm_congr (fun i hi => ?_)
  cases q : bt (nI s) i
  · simp
  · rw [(subB_bit hn (by omega) h q).2]; simp
theorem carO_s {F : FL} (hn : f_n F ≤ 7) {s : Nat} (h : subB F s = true) : carO F (nI s) = carA F + gnS (fun i => -2 * ldF F i * f_h F i) (f_n F) s := by
  unfold carO carA gnS
  rw [sm_add]
  refine sm_congr (fun i hi => ?_)
  cases q : bt (nI s) i
  · cases bt (f_o F) i <;> simp
  · rw [(subB_bit hn (by omega) h q).2]
    simp only [Bool.false_eq_true, if_false, if_true]
    rw [Int32.mul_assoc, Int32.mul_neg]
    generalize ldF F i * f_h F i = x
    have e : (-2 : Int32) = -1 + -1 := by decide
    rw [e, Int32.add_mul, Int32.neg_mul, Int32.one_mul, ← Int32.add_assoc, Int32.add_right_neg, Int32.zero_add]
theorem sm_cN (P : Nat → Bool) : ∀ n, sm (fun i => if P i then 1 else 0) n = nI (cN P n)
  | 0 => rfl
  | n + 1 => by
    show sm (fun i => if P i then 1 else 0) n + (if P n then 1 else 0) = nI (cN P n + (if P n then 1 else 0))
    rw [sm_cN P n]
    by_cases q : P n = true
    · rw [if_pos q, if_pos q, nI_1]
    · rw [if_neg q, if_neg q, Int32.add_zero, Nat.add_zero]
theorem bcN_c {s n : Nat} (hn : n ≤ 7) (hs : s < 2 ^ n) : bcN s = nI (cN (fun i => s.testBit i) n) := by
  have e : nI s = mkb (fun i => s.testBit i) n := by
    apply b_ext
    intro i hi
    rw [bt_nIt hi, bt_mkb (by omega) hi]
    by_cases q : i < n
    · rw [decide_eq_true q, Bool.true_and]
    · rw [tb_hi hs (by omega)]; simp
  unfold bcN
  rw [e, bc_mkb _ hn, sm_cN]
theorem cN_pos {P : Nat → Bool} : ∀ {n i : Nat}, i < n → P i = true → 0 < cN P n
  | 0, _, h, _ => by omega
  | n + 1, i, h, hp => by
    unfold cN
    by_cases e : i = n
    · subst e; rw [if_pos hp]; omega
    · have := cN_pos (show i < n by omega) hp
      omega
section FE
variable {σ : ST} {F : FL} {R : List Int64} {μ : Mm}
theorem C_few (hn : f_n (s_F σ) ≤ 7) (hc : CSR σ R μ) {g : Nat → Int32} {base : Int32} (hp : μ.1 33 1 = preA (s_F σ)) (hb : μ.1 33 2 = base) (hg : ∀ i, i < f_n (s_F σ) → μ.1 34 i = g i) (ex : Int32) : p_X11_tellFewest ex μ ∧ v_X11_tellFewest ex μ = fewV (fwS (srD (s_F σ) g base ex) (pN (s_F σ) + 1)).1 ∧ CSR σ (fewT (fwS (srD (s_F σ) g base ex) (pN (s_F σ) + 1)).1 R) (e_X11_tellFewest ex μ) ∧ (e_X11_tellFewest ex μ).1 33 4 = nI (fwS (srD (s_F σ) g base ex) (pN (s_F σ) + 1)).2 := by
  obtain ⟨p1, v1, b1, w1⟩ := C_search (F := s_F σ) hn hp hb hg ex
  have f1 := fr_X8_search ex μ
  have c1 : CSR σ R (e_X8_search ex μ) := ⟨hc.1.fr f1 (by decide), hc.2.fr f1 (by decide)⟩
  unfold p_X11_tellFewest v_X11_tellFewest e_X11_tellFewest
  simp only [forall_eq]
  rw [v1]
  generalize e_X8_search ex μ = μ2 at b1 w1 c1 ⊢
  obtain ⟨-, o2, -⟩ := fwS_ok (srD (s_F σ) g base ex) (pN (s_F σ) + 1)
  generalize fwS (srD (s_F σ) g base ex) (pN (s_F σ) + 1) = o at b1 w1 o2 ⊢
  have c2 := CSR_begin c1
  have e3 : (e_X10_begin μ2).1 33 = μ2.1 33 := (fr_X10_begin μ2).1 33 (by simp)
  rw [e3, b1]
  obtain ⟨p3, c3⟩ := CSR_add c2 (by simp) (bsC o.1).toInt64
  have e4 : (e_X10_add (bsC o.1).toInt64 (e_X10_begin μ2)).1 33 = μ2.1 33 := by rw [(fr_X10_add (bsC o.1).toInt64 (e_X10_begin μ2)).1 33 (by simp), e3]
  by_cases q : o.2 = 0
  · rw [if_pos q]
    have q1 := o2.mp q
    simp only [if_true]
    rw [q1]
    exact ⟨⟨p1, fun y => absurd trivial y⟩, rfl, c1, w1⟩
  · rw [if_neg q]
    obtain ⟨o1, ow⟩ := o
    cases o1 with
    | none => exact absurd (o2.mpr rfl) q
    | some b =>
      simp only [show ¬ ((1 : Int32) = 0) from by decide, if_false]
      refine ⟨⟨p1, fun _ => p3⟩, ?_, c3, ?_⟩
      · rw [e4, b1]; rfl
      · rw [e4]; exact w1
theorem fewer_n (x : Int32) : v_X12_isFewer x (-1) = 1 := by
  unfold v_X12_isFewer
  exact if_pos (by decide)
theorem fewer_s {b s : Nat} (hb : b < 2 ^ 31) : v_X12_isFewer (nI s) (nI b) = if bcN b ≤ bcN s then 0 else 1 := by
  unfold v_X12_isFewer
  exact if_neg (nI_pos hb)
theorem M_few {f : Int32 × Int32 → (Int32 × Int32) ⊕ Int32} {sd : Int32 × Int32 → Prop} {dd : Int32 × Int32 → Int32} {E : Nat → Bool} {N : Nat} (hN : N ≤ 1000)
    (hs : ∀ s, s < N → ∀ x, sd (x, nI s) ∧ f (x, nI s) = .inl ((if E s then (if v_X12_isFewer (nI s) x = 0 then x else nI s) else x), nI (s + 1))) (he : ∀ x, sd (x, nI N) ∧ f (x, nI N) = .inr x) : whP f sd FU (-1, 0) ∧ whl f dd FU (-1, 0) = bsM (fwS E N).1 := by
  refine lpF (fun s => (bsM (fwS E s).1, nI s)) N (by omega) (fun s hs' => ⟨(hs s hs' _).1, ?_⟩) (he _)
  rw [(hs s hs' _).2]
  have ef : fwS E (s + 1) = if E s then ((match (fwS E s).1 with
        | none => some s
        | some b => if bcN b ≤ bcN s then some b else some s), (fwS E s).2 + 1) else fwS E s := rfl
  rw [ef]
  by_cases q : E s = true
  · rw [if_pos q, if_pos q]
    cases hf : (fwS E s).1 with
    | none =>
      have e : bsM none = -1 := rfl
      rw [e, fewer_n, if_neg (by decide)]
      rfl
    | some b =>
      have hb := ((fwS_ok E s).2.2 b hf).1
      have e : bsM (some b) = nI b := rfl
      rw [e, fewer_s (by omega)]
      dsimp only
      by_cases q2 : bcN b ≤ bcN s
      · rw [if_pos q2, if_pos q2]; rfl
      · rw [if_neg q2, if_neg q2]; rfl
  · rw [if_neg q, if_neg q]
theorem M_fewT (hm : MSR σ R μ) {o : Option Nat} (ho : ∀ b, o = some b → b < 1000) : p_X12_entersFewest (bsM o) μ ∧ v_X12_entersFewest (bsM o) = fewV o ∧ MSR σ (fewT o R) (e_X12_entersFewest (bsM o) μ) := by
  unfold p_X12_entersFewest v_X12_entersFewest e_X12_entersFewest
  simp only [forall_eq]
  cases o with
  | none =>
    have e : bsM none = -1 := rfl
    have g : ¬ ((0 : Int32) ≤ -1) := by decide
    rw [e, if_neg g, if_neg g]
    exact ⟨fun y => absurd y g, rfl, hm⟩
  | some b =>
    have e : bsM (some b) = nI b := rfl
    have g : (0 : Int32) ≤ nI b := nI_pos' (by have := ho b rfl; omega)
    rw [e, if_pos g, if_pos g]
    obtain ⟨p1, c1⟩ := MSR_add (MSR_begin hm) (by simp) (nI b).toInt64
    exact ⟨fun _ => p1, rfl, c1⟩
theorem start_33 (a b : Int32) (μ : Mm) : (e_X8_start a b μ).1 33 1 = a ∧ (e_X8_start a b μ).1 33 2 = b := by
  unfold e_X8_start
  dsimp only
  exact ⟨by rw [rI, if_neg (by omega), rI, if_pos ⟨rfl, rfl⟩], by rw [rI, if_pos ⟨rfl, rfl⟩]⟩
theorem gt_all {n s : Nat} (hn : n ≤ 7) (hs : s < 2 ^ 31) : (nI (2 ^ n - 1) < nI s) ↔ 2 ^ n ≤ s := by
  have := pow7 hn
  have h0 : 0 < 2 ^ n := Nat.pow_pos (by omega)
  rw [nI_ltI (by omega) hs]
  omega
theorem C_gain_wall (hc : CS σ μ) : whP (fun s : Int32 × Mm => bd_X11_wall_23 s.1 s.2) (fun s : Int32 × Mm => sd_X11_wall_23 s.1 s.2) FU (0, μ) ∧ (fun z : Mm => Fr [34] μ z ∧ ∀ i, i < f_n (s_F σ) → z.1 34 i = ldF (s_F σ) i * (9 - f_p (s_F σ) i)) (whl (fun s : Int32 × Mm => bd_X11_wall_23 s.1 s.2) (fun s : Int32 × Mm => s.2) FU (0, μ)) := by
  have hn := hc.F.1
  refine lpI (f := fun s : Int32 × Mm => bd_X11_wall_23 s.1 s.2) (sd := fun s : Int32 × Mm => sd_X11_wall_23 s.1 s.2) (dd := fun s : Int32 × Mm => s.2)
    (I := fun i s => i ≤ f_n (s_F σ) ∧ ∃ μ', s = (nI i, μ') ∧ Fr [34] μ μ' ∧ ∀ j, j < i → μ'.1 34 j = (fun i => ldF (s_F σ) i * (9 - f_p (s_F σ) i)) j)
    (R := fun z : Mm => Fr [34] μ z ∧ ∀ i, i < f_n (s_F σ) → z.1 34 i = ldF (s_F σ) i * (9 - f_p (s_F σ) i)) (f_n (s_F σ)) (by omega) ?_ (s0 := (0, μ)) ⟨Nat.zero_le _, μ, rfl, Fr.rfl, fun j hj => absurd hj (by omega)⟩
  rintro i _ hi ⟨hi2, μ', rfl, hf, hg⟩
  dsimp only
  have hc' : CS σ μ' := hc.fr hf (by decide)
  unfold sd_X11_wall_23 bd_X11_wall_23
  rw [hc'.F.sz, nI_1]
  simp only [nI_leI (show f_n (s_F σ) < 2 ^ 31 by omega) (show i < 2 ^ 31 by omega), nI_clamp (show i < 2 ^ 31 by omega)]
  rcases Nat.lt_or_ge i (f_n (s_F σ)) with z | z
  · rw [if_neg (show ¬ f_n (s_F σ) ≤ i by omega), (C_load hc'.F z).2, show μ'.1 4 i = f_p (s_F σ) i from hc'.F.p (by omega)]
    refine ⟨fun _ => ⟨(C_load hc'.F z).1, vp_in_nI (by omega) (by omega), vp_in_nI (by omega) (by omega)⟩, .inl ⟨_, rfl, z, by omega, _, rfl, hf.up (by simp), fun j hj => ?_⟩⟩
    rw [rI]
    by_cases e : j = i
    · subst e; rw [if_pos ⟨rfl, rfl⟩]
    · rw [if_neg (by omega)]; exact hg j (by omega)
  · have : i = f_n (s_F σ) := by omega
    subst this
    rw [if_pos (Nat.le_refl _)]
    exact ⟨fun y => absurd (Nat.le_refl _) y, .inr ⟨_, rfl, hf, hg⟩⟩
theorem C_gain_canvass (hc : CS σ μ) : whP (fun s : Int32 × Mm => bd_X11_canvass_23 s.1 s.2) (fun s : Int32 × Mm => sd_X11_canvass_23 s.1 s.2) FU (0, μ) ∧ (fun z : Mm => Fr [34] μ z ∧ ∀ i, i < f_n (s_F σ) → z.1 34 i = -2 * ldF (s_F σ) i * f_h (s_F σ) i) (whl (fun s : Int32 × Mm => bd_X11_canvass_23 s.1 s.2) (fun s : Int32 × Mm => s.2) FU (0, μ)) := by
  have hn := hc.F.1
  refine lpI (f := fun s : Int32 × Mm => bd_X11_canvass_23 s.1 s.2) (sd := fun s : Int32 × Mm => sd_X11_canvass_23 s.1 s.2) (dd := fun s : Int32 × Mm => s.2)
    (I := fun i s => i ≤ f_n (s_F σ) ∧ ∃ μ', s = (nI i, μ') ∧ Fr [34] μ μ' ∧ ∀ j, j < i → μ'.1 34 j = (fun i => -2 * ldF (s_F σ) i * f_h (s_F σ) i) j)
    (R := fun z : Mm => Fr [34] μ z ∧ ∀ i, i < f_n (s_F σ) → z.1 34 i = -2 * ldF (s_F σ) i * f_h (s_F σ) i) (f_n (s_F σ)) (by omega) ?_ (s0 := (0, μ)) ⟨Nat.zero_le _, μ, rfl, Fr.rfl, fun j hj => absurd hj (by omega)⟩
  rintro i _ hi ⟨hi2, μ', rfl, hf, hg⟩
  dsimp only
  have hc' : CS σ μ' := hc.fr hf (by decide)
  unfold sd_X11_canvass_23 bd_X11_canvass_23
  rw [hc'.F.sz, nI_1]
  simp only [nI_leI (show f_n (s_F σ) < 2 ^ 31 by omega) (show i < 2 ^ 31 by omega), nI_clamp (show i < 2 ^ 31 by omega)]
  rcases Nat.lt_or_ge i (f_n (s_F σ)) with z | z
  · rw [if_neg (show ¬ f_n (s_F σ) ≤ i by omega), (C_load hc'.F z).2, show μ'.1 3 i = f_h (s_F σ) i from hc'.F.h (by omega)]
    refine ⟨fun _ => ⟨(C_load hc'.F z).1, vp_in_nI (by omega) (by omega), vp_in_nI (by omega) (by omega)⟩, .inl ⟨_, rfl, z, by omega, _, rfl, hf.up (by simp), fun j hj => ?_⟩⟩
    rw [rI]
    by_cases e : j = i
    · subst e; rw [if_pos ⟨rfl, rfl⟩]
    · rw [if_neg (by omega)]; exact hg j (by omega)
  · have : i = f_n (s_F σ) := by omega
    subst this
    rw [if_pos (Nat.le_refl _)]
    exact ⟨fun y => absurd (Nat.le_refl _) y, .inr ⟨_, rfl, hf, hg⟩⟩
theorem C_gain_clears (hc : CS σ μ) : whP (fun s : Int32 × Mm => bd_X11_clears_23 s.1 s.2) (fun s : Int32 × Mm => sd_X11_clears_23 s.1 s.2) FU (0, μ) ∧ (fun z : Mm => Fr [34] μ z ∧ ∀ i, i < f_n (s_F σ) → z.1 34 i = -ldF (s_F σ) i * f_p (s_F σ) i) (whl (fun s : Int32 × Mm => bd_X11_clears_23 s.1 s.2) (fun s : Int32 × Mm => s.2) FU (0, μ)) := by
  have hn := hc.F.1
  refine lpI (f := fun s : Int32 × Mm => bd_X11_clears_23 s.1 s.2) (sd := fun s : Int32 × Mm => sd_X11_clears_23 s.1 s.2) (dd := fun s : Int32 × Mm => s.2)
    (I := fun i s => i ≤ f_n (s_F σ) ∧ ∃ μ', s = (nI i, μ') ∧ Fr [34] μ μ' ∧ ∀ j, j < i → μ'.1 34 j = (fun i => -ldF (s_F σ) i * f_p (s_F σ) i) j)
    (R := fun z : Mm => Fr [34] μ z ∧ ∀ i, i < f_n (s_F σ) → z.1 34 i = -ldF (s_F σ) i * f_p (s_F σ) i) (f_n (s_F σ)) (by omega) ?_ (s0 := (0, μ)) ⟨Nat.zero_le _, μ, rfl, Fr.rfl, fun j hj => absurd hj (by omega)⟩
  rintro i _ hi ⟨hi2, μ', rfl, hf, hg⟩
  dsimp only
  have hc' : CS σ μ' := hc.fr hf (by decide)
  unfold sd_X11_clears_23 bd_X11_clears_23
  rw [hc'.F.sz, nI_1]
  simp only [nI_leI (show f_n (s_F σ) < 2 ^ 31 by omega) (show i < 2 ^ 31 by omega), nI_clamp (show i < 2 ^ 31 by omega)]
  rcases Nat.lt_or_ge i (f_n (s_F σ)) with z | z
  · rw [if_neg (show ¬ f_n (s_F σ) ≤ i by omega), (C_load hc'.F z).2, show μ'.1 4 i = f_p (s_F σ) i from hc'.F.p (by omega)]
    refine ⟨fun _ => ⟨(C_load hc'.F z).1, vp_in_nI (by omega) (by omega), vp_in_nI (by omega) (by omega)⟩, .inl ⟨_, rfl, z, by omega, _, rfl, hf.up (by simp), fun j hj => ?_⟩⟩
    rw [rI]
    by_cases e : j = i
    · subst e; rw [if_pos ⟨rfl, rfl⟩]
    · rw [if_neg (by omega)]; exact hg j (by omega)
  · have : i = f_n (s_F σ) := by omega
    subst this
    rw [if_pos (Nat.le_refl _)]
    exact ⟨fun y => absurd (Nat.le_refl _) y, .inr ⟨_, rfl, hf, hg⟩⟩
theorem C_gain_just (hc : CS σ μ) : whP (fun s : Int32 × Mm => bd_X11_just_30 s.1 s.2) (fun s : Int32 × Mm => sd_X11_just_30 s.1 s.2) FU (0, μ) ∧ (fun z : Mm => Fr [34] μ z ∧ ∀ i, i < f_n (s_F σ) → z.1 34 i = ldF (s_F σ) i) (whl (fun s : Int32 × Mm => bd_X11_just_30 s.1 s.2) (fun s : Int32 × Mm => s.2) FU (0, μ)) := by
  have hn := hc.F.1
  refine lpI (f := fun s : Int32 × Mm => bd_X11_just_30 s.1 s.2) (sd := fun s : Int32 × Mm => sd_X11_just_30 s.1 s.2) (dd := fun s : Int32 × Mm => s.2)
    (I := fun i s => i ≤ f_n (s_F σ) ∧ ∃ μ', s = (nI i, μ') ∧ Fr [34] μ μ' ∧ ∀ j, j < i → μ'.1 34 j = (fun i => ldF (s_F σ) i) j)
    (R := fun z : Mm => Fr [34] μ z ∧ ∀ i, i < f_n (s_F σ) → z.1 34 i = ldF (s_F σ) i) (f_n (s_F σ)) (by omega) ?_ (s0 := (0, μ)) ⟨Nat.zero_le _, μ, rfl, Fr.rfl, fun j hj => absurd hj (by omega)⟩
  rintro i _ hi ⟨hi2, μ', rfl, hf, hg⟩
  dsimp only
  have hc' : CS σ μ' := hc.fr hf (by decide)
  unfold sd_X11_just_30 bd_X11_just_30
  rw [hc'.F.sz, nI_1]
  simp only [nI_leI (show f_n (s_F σ) < 2 ^ 31 by omega) (show i < 2 ^ 31 by omega), nI_clamp (show i < 2 ^ 31 by omega)]
  rcases Nat.lt_or_ge i (f_n (s_F σ)) with z | z
  · rw [if_neg (show ¬ f_n (s_F σ) ≤ i by omega), (C_load hc'.F z).2]
    refine ⟨fun _ => ⟨(C_load hc'.F z).1, vp_in_nI (by omega) (by omega)⟩, .inl ⟨_, rfl, z, by omega, _, rfl, hf.up (by simp), fun j hj => ?_⟩⟩
    rw [rI]
    by_cases e : j = i
    · subst e; rw [if_pos ⟨rfl, rfl⟩]
    · rw [if_neg (by omega)]; exact hg j (by omega)
  · have : i = f_n (s_F σ) := by omega
    subst this
    rw [if_pos (Nat.le_refl _)]
    exact ⟨fun y => absurd (Nat.le_refl _) y, .inr ⟨_, rfl, hf, hg⟩⟩
def waE (F : FL) (s : Nat) : Bool := decide (nI s &&& f_o F = 0) && decide (¬ momA F - momO F (nI s) + 9 * lodO F (nI s) ≤ 0)
theorem M_l_wall (hm : MS σ μ) : whP (fun s : Int32 × Int32 => bd_X12_wall_9 μ s.1 s.2) (fun s : Int32 × Int32 => sd_X12_wall_9 μ s.1 s.2) FU (-1, 0) ∧ whl (fun s : Int32 × Int32 => bd_X12_wall_9 μ s.1 s.2) (fun _ : Int32 × Int32 => 0) FU (-1, 0) = bsM (fwS (waE (s_F σ)) (2 ^ f_n (s_F σ))).1 := by
  have hn := hm.F.1
  have hp7 := pow7 hn
  refine M_few (by omega) (fun s hs x => ?_) (fun x => ?_)
  · dsimp only
    unfold sd_X12_wall_9 bd_X12_wall_9 waE
    rw [all_N hm.F]
    simp only [gt_all hn (show s < 2 ^ 31 by omega), nI_1]
    rw [if_neg (show ¬ 2 ^ f_n (s_F σ) ≤ s by omega), (M_moment hm.F).2, (M_momentOf hm.F _).2, (M_loadOf hm.F _).2, cl21, hm.F.o]
    refine ⟨fun _ _ => ⟨(M_moment hm.F).1, (M_momentOf hm.F _).1, (M_loadOf hm.F _).1⟩, ?_⟩
    by_cases q1 : nI s &&& f_o (s_F σ) = 0 <;> by_cases q2 : momA (s_F σ) - momO (s_F σ) (nI s) + 9 * lodO (s_F σ) (nI s) ≤ 0 <;> simp [q1, q2]
  · dsimp only
    unfold sd_X12_wall_9 bd_X12_wall_9
    rw [all_N hm.F]
    simp only [gt_all hn (show 2 ^ f_n (s_F σ) < 2 ^ 31 by omega)]
    rw [if_pos (Nat.le_refl _)]
    exact ⟨fun y => absurd (Nat.le_refl _) y, rfl⟩
def caE (F : FL) (s : Nat) : Bool := decide (¬ carO F (nI s) ≤ 0)
theorem M_l_canvass (hm : MS σ μ) : whP (fun s : Int32 × Int32 => bd_X12_canvass_9 μ s.1 s.2) (fun s : Int32 × Int32 => sd_X12_canvass_9 μ s.1 s.2) FU (-1, 0) ∧ whl (fun s : Int32 × Int32 => bd_X12_canvass_9 μ s.1 s.2) (fun _ : Int32 × Int32 => 0) FU (-1, 0) = bsM (fwS (caE (s_F σ)) (2 ^ f_n (s_F σ))).1 := by
  have hn := hm.F.1
  have hp7 := pow7 hn
  refine M_few (by omega) (fun s hs x => ?_) (fun x => ?_)
  · dsimp only
    unfold sd_X12_canvass_9 bd_X12_canvass_9 caE
    rw [all_N hm.F]
    simp only [gt_all hn (show s < 2 ^ 31 by omega), nI_1]
    rw [if_neg (show ¬ 2 ^ f_n (s_F σ) ≤ s by omega), (M_caring hm.F _).2]
    refine ⟨fun _ => (M_caring hm.F _).1, ?_⟩
    by_cases q2 : carO (s_F σ) (nI s) ≤ 0 <;> simp [q2]
  · dsimp only
    unfold sd_X12_canvass_9 bd_X12_canvass_9
    rw [all_N hm.F]
    simp only [gt_all hn (show 2 ^ f_n (s_F σ) < 2 ^ 31 by omega)]
    rw [if_pos (Nat.le_refl _)]
    exact ⟨fun y => absurd (Nat.le_refl _) y, rfl⟩
def clE (F : FL) (s : Nat) : Bool := decide (nI s &&& f_o F = 0) && decide (momA F = momO F (nI s))
theorem M_l_clears (hm : MS σ μ) : whP (fun s : Int32 × Int32 => bd_X12_clears_9 μ s.1 s.2) (fun s : Int32 × Int32 => sd_X12_clears_9 μ s.1 s.2) FU (-1, 0) ∧ whl (fun s : Int32 × Int32 => bd_X12_clears_9 μ s.1 s.2) (fun _ : Int32 × Int32 => 0) FU (-1, 0) = bsM (fwS (clE (s_F σ)) (2 ^ f_n (s_F σ))).1 := by
  have hn := hm.F.1
  have hp7 := pow7 hn
  refine M_few (by omega) (fun s hs x => ?_) (fun x => ?_)
  · dsimp only
    unfold sd_X12_clears_9 bd_X12_clears_9 clE
    rw [all_N hm.F]
    simp only [gt_all hn (show s < 2 ^ 31 by omega), nI_1]
    rw [if_neg (show ¬ 2 ^ f_n (s_F σ) ≤ s by omega), (M_moment hm.F).2, (M_momentOf hm.F _).2, cl21, hm.F.o]
    refine ⟨fun _ _ => ⟨(M_moment hm.F).1, (M_momentOf hm.F _).1⟩, ?_⟩
    by_cases q1 : nI s &&& f_o (s_F σ) = 0 <;> by_cases q2 : momA (s_F σ) = momO (s_F σ) (nI s) <;> simp [q1, q2]
  · dsimp only
    unfold sd_X12_clears_9 bd_X12_clears_9
    rw [all_N hm.F]
    simp only [gt_all hn (show 2 ^ f_n (s_F σ) < 2 ^ 31 by omega)]
    rw [if_pos (Nat.le_refl _)]
    exact ⟨fun y => absurd (Nat.le_refl _) y, rfl⟩
theorem fw_all {F : FL} (hn : f_n F ≤ 7) {D E : Nat → Bool} (h0 : ∀ s, D s = true → subB F s = true) (h : ∀ s, s < 2 ^ f_n F → D s = E s) : fwS D (pN F + 1) = fwS E (2 ^ f_n F) := by
  have hp := pN_lt F
  have hp7 := pow7 hn
  rw [← fwS_congr h]
  have := fwS_cut (D := D) (m := pN F + 1) (2 ^ f_n F - (pN F + 1)) (fun s h1 h2 => by
    cases q : D s
    · rfl
    · have := subB_le hn (by omega) (h0 s q)
      omega)
  rw [← this, show pN F + 1 + (2 ^ f_n F - (pN F + 1)) = 2 ^ f_n F by omega]
theorem srD_sub {F : FL} {g : Nat → Int32} {base ex : Int32} {s : Nat} (h : srD F g base ex s = true) : subB F s = true := by
  unfold srD at h
  simp only [Bool.and_eq_true] at h
  exact h.1
theorem wa_eq {F : FL} (hn : f_n F ≤ 7) : fwS (srD F (fun i => ldF F i * (9 - f_p F i)) (momA F) 0) (pN F + 1) = fwS (waE F) (2 ^ f_n F) := by
  refine fw_all hn (fun s => srD_sub) (fun s hs => ?_)
  unfold srD waE
  rw [← sub_off hn hs]
  cases q : subB F s
  · have : ¬ nI s &&& (preA F ^^^ (-1)) = 0 := of_decide_eq_false q
    rw [decide_eq_false this, Bool.false_and, Bool.false_and]
  · have q' : nI s &&& (preA F ^^^ (-1)) = 0 := of_decide_eq_true q
    rw [decide_eq_true q', momO_s hn q, lodO_s hn q]
    have e : gnS (fun i => ldF F i * (9 - f_p F i)) (f_n F) s = 9 * gnS (fun i => ldF F i) (f_n F) s + -gnS (fun i => ldF F i * f_p F i) (f_n F) s := by
      rw [← gnS_mul, ← gnS_neg, ← gnS_add]
      refine gnS_congr (fun i _ => ?_)
      rw [Int32.mul_sub, Int32.mul_comm (ldF F i) 9, Int32.sub_eq_add_neg]
    rw [e]
    have e2 : momA F + (9 * gnS (fun i => ldF F i) (f_n F) s + -gnS (fun i => ldF F i * f_p F i) (f_n F) s) = momA F - gnS (fun i => ldF F i * f_p F i) (f_n F) s + 9 * gnS (fun i => ldF F i) (f_n F) s := by
      rw [Int32.sub_eq_add_neg, Int32.add_assoc, Int32.add_comm (-gnS _ _ _)]
    rw [e2]
    generalize momA F - gnS (fun i => ldF F i * f_p F i) (f_n F) s + 9 * gnS (fun i => ldF F i) (f_n F) s = x
    unfold doB
    rw [if_pos rfl]
theorem add_neg_0 {a b : Int32} : a + -b = 0 ↔ a = b := by
  constructor
  · intro h
    have : a + -b + b = b := by rw [h, Int32.zero_add]
    rw [Int32.add_assoc, Int32.add_left_neg, Int32.add_zero] at this
    exact this
  · intro h; rw [h, Int32.add_right_neg]
theorem cl_eq {F : FL} (hn : f_n F ≤ 7) : fwS (srD F (fun i => -ldF F i * f_p F i) (momA F) 1) (pN F + 1) = fwS (clE F) (2 ^ f_n F) := by
  refine fw_all hn (fun s => srD_sub) (fun s hs => ?_)
  unfold srD clE
  rw [← sub_off hn hs]
  cases q : subB F s
  · have : ¬ nI s &&& (preA F ^^^ (-1)) = 0 := of_decide_eq_false q
    rw [decide_eq_false this, Bool.false_and, Bool.false_and]
  · have q' : nI s &&& (preA F ^^^ (-1)) = 0 := of_decide_eq_true q
    rw [decide_eq_true q', momO_s hn q]
    have e : gnS (fun i => -ldF F i * f_p F i) (f_n F) s = -gnS (fun i => ldF F i * f_p F i) (f_n F) s := by
      rw [← gnS_neg]
      exact gnS_congr (fun i _ => Int32.neg_mul _ _)
    rw [e]
    unfold doB
    rw [if_neg (by decide)]
    simp only [add_neg_0]
theorem ca_eq {F : FL} (hn : f_n F ≤ 7) : (fwS (srD F (fun i => -2 * ldF F i * f_h F i) (carA F) 0) (pN F + 1)).1 = (fwS (caE F) (2 ^ f_n F)).1 := by
  have hp := pN_lt F
  have hp7 := pow7 hn
  have e1 := fw_all hn (D := srD F (fun i => -2 * ldF F i * f_h F i) (carA F) 0) (E := srD F (fun i => -2 * ldF F i * f_h F i) (carA F) 0) (fun s => srD_sub) (fun _ _ => rfl)
  rw [e1]
  have hsub : ∀ s, subB F s = true → srD F (fun i => -2 * ldF F i * f_h F i) (carA F) 0 s = caE F s := by
    intro s q
    unfold srD caE
    rw [q, carO_s hn q]
    rfl
  refine fwS_best (fun s hs hd => ?_) (fun s hs he hd => ?_)
  · rw [← hsub s (srD_sub hd)]; exact hd
  · have hns : subB F s = false := by
      cases q : subB F s
      · rfl
      · rw [hsub s q, he] at hd; exact absurd hd (by decide)
    have hts : s &&& pN F ≤ pN F := Nat.and_le_right
    have htb : ∀ i, i < 32 → bt (nI (s &&& pN F)) i = (bt (nI s) i && bt (preA F) i) := by
      intro i hi
      rw [bt_nIt hi, bt_nIt hi, preA_N hn, bt_nIt hi, Nat.testBit_and]
    have hsubt : subB F (s &&& pN F) = true := by
      refine decide_eq_true ?_
      apply b_ext
      intro i hi
      rw [b_and, bt_not _ hi, htb i hi, b_0]
      cases bt (nI s) i <;> cases bt (preA F) i <;> rfl
    have hcar : carO F (nI (s &&& pN F)) = carO F (nI s) := by
      unfold carO
      refine sm_congr (fun i hi => ?_)
      rw [htb i (by omega), bt_pre hn (by omega), decide_eq_true hi]
      cases bt (f_o F) i <;> cases bt (nI s) i <;> simp
    refine ⟨s &&& pN F, by omega, ?_, ?_⟩
    · rw [hsub _ hsubt]
      unfold caE at he ⊢
      rw [hcar]; exact he
    · rw [bcN_c hn hs, bcN_c hn (by omega)]
      have hc := cN_add (S := fun i => s.testBit i) (P := fun i => (s &&& pN F).testBit i) (Q := fun i => s.testBit i && !(pN F).testBit i) (n := f_n F) (fun i _ => by
        simp only [Nat.testBit_and]
        cases s.testBit i <;> cases (pN F).testBit i <;> decide)
      have hpos : 0 < cN (fun i => s.testBit i && !(pN F).testBit i) (f_n F) := by
        have hne : ¬ nI s &&& (preA F ^^^ (-1)) = 0 := of_decide_eq_false hns
        rcases Nat.lt_or_ge 0 (cN (fun i => s.testBit i && !(pN F).testBit i) (f_n F)) with z | z
        · exact z
        · exfalso
          apply hne
          apply b_ext
          intro i hi
          rw [b_and, bt_not _ hi, b_0, bt_nIt hi, preA_N hn, bt_nIt hi]
          by_cases qi : i < f_n F
          · cases qb : (s.testBit i && !(pN F).testBit i)
            · rfl
            · have := cN_pos (P := fun i => s.testBit i && !(pN F).testBit i) qi qb
              omega
          · rw [tb_hi hs (by omega)]; rfl
      have l1 := cN_le (fun i => s.testBit i) (f_n F)
      have l2 := cN_le (fun i => (s &&& pN F).testBit i) (f_n F)
      rw [nI_leI (by omega) (by omega)]
      omega
theorem call_wall (h : Sim σ R μ) : Call (p_X11_wall μ) (p_X12_wall (e_X11_wall μ)) (v_X11_wall μ) (v_X12_wall (e_X11_wall μ)) (e_X12_wall (e_X11_wall μ)) := by
  have fC := fr_X11_wall μ
  have m := h.m1 fC (by decide)
  have hn := h.1.g.1
  have hp7 := pow7 hn
  refine Two (v := fewV (fwS (waE (s_F σ)) (2 ^ f_n (s_F σ))).1) (R' := fewT (fwS (waE (s_F σ)) (2 ^ f_n (s_F σ))).1 R) h fC (fs_X12_wall _) ?_ ?_ (by decide) (by decide)
  · unfold p_X11_wall v_X11_wall e_X11_wall
    simp only [forall_eq]
    obtain ⟨p1, v1⟩ := C_moment h.2.1.F
    rw [v1, C_present h.2.1.F]
    have f1 := fr_X8_start (preA (s_F σ)) (momA (s_F σ)) μ
    obtain ⟨s1, s2⟩ := start_33 (preA (s_F σ)) (momA (s_F σ)) μ
    have c1 : CSR σ R (e_X8_start (preA (s_F σ)) (momA (s_F σ)) μ) := ⟨h.2.1.fr f1 (by decide), h.2.2.2.1.fr f1 (by decide)⟩
    generalize e_X8_start (preA (s_F σ)) (momA (s_F σ)) μ = μ2 at s1 s2 c1 ⊢
    obtain ⟨k1, k2, k3⟩ := C_gain_wall c1.1
    generalize whl _ _ FU _ = z at k2 k3 ⊢
    have c2 : CSR σ R z := ⟨c1.1.fr k2 (by decide), c1.2.fr k2 (by decide)⟩
    obtain ⟨q1, q2, q3, -⟩ := C_few hn c2 (base := momA (s_F σ)) (g := fun i => ldF (s_F σ) i * (9 - f_p (s_F σ) i)) (by rw [k2.1 33 (by simp)]; exact s1) (by rw [k2.1 33 (by simp)]; exact s2) k3 0
    rw [wa_eq hn] at q2 q3
    exact ⟨⟨p1, k1, q1⟩, q2, q3.2⟩
  · generalize e_X11_wall μ = μa at m ⊢
    unfold p_X12_wall v_X12_wall e_X12_wall
    simp only [forall_eq]
    have hm0 : MSR σ R (upI μa 49 0 0) := ⟨m.1.th 0, m.2.th 0⟩
    generalize upI μa 49 0 0 = μ0 at hm0 ⊢
    obtain ⟨k1, k2⟩ := M_l_wall hm0.1
    rw [k2]
    obtain ⟨q1, q2, q3⟩ := M_fewT hm0 (o := (fwS (waE (s_F σ)) (2 ^ f_n (s_F σ))).1) (fun b hb => by
      have := ((fwS_ok (waE (s_F σ)) (2 ^ f_n (s_F σ))).2.2 b hb).1
      omega)
    exact ⟨⟨k1, q1⟩, q2, q3.2⟩
theorem call_canvass (h : Sim σ R μ) : Call (p_X11_canvass μ) (p_X12_canvass (e_X11_canvass μ)) (v_X11_canvass μ) (v_X12_canvass (e_X11_canvass μ)) (e_X12_canvass (e_X11_canvass μ)) := by
  have fC := fr_X11_canvass μ
  have m := h.m1 fC (by decide)
  have hn := h.1.g.1
  have hp7 := pow7 hn
  refine Two (v := fewV (fwS (caE (s_F σ)) (2 ^ f_n (s_F σ))).1) (R' := fewT (fwS (caE (s_F σ)) (2 ^ f_n (s_F σ))).1 R) h fC (fs_X12_canvass _) ?_ ?_ (by decide) (by decide)
  · unfold p_X11_canvass v_X11_canvass e_X11_canvass
    simp only [forall_eq]
    obtain ⟨p1, v1⟩ := C_care h.2.1.F
    rw [v1, C_present h.2.1.F]
    have f1 := fr_X8_start (preA (s_F σ)) (carA (s_F σ)) μ
    obtain ⟨s1, s2⟩ := start_33 (preA (s_F σ)) (carA (s_F σ)) μ
    have c1 : CSR σ R (e_X8_start (preA (s_F σ)) (carA (s_F σ)) μ) := ⟨h.2.1.fr f1 (by decide), h.2.2.2.1.fr f1 (by decide)⟩
    generalize e_X8_start (preA (s_F σ)) (carA (s_F σ)) μ = μ2 at s1 s2 c1 ⊢
    obtain ⟨k1, k2, k3⟩ := C_gain_canvass c1.1
    generalize whl _ _ FU _ = z at k2 k3 ⊢
    have c2 : CSR σ R z := ⟨c1.1.fr k2 (by decide), c1.2.fr k2 (by decide)⟩
    obtain ⟨q1, q2, q3, -⟩ := C_few hn c2 (base := carA (s_F σ)) (g := fun i => -2 * ldF (s_F σ) i * f_h (s_F σ) i) (by rw [k2.1 33 (by simp)]; exact s1) (by rw [k2.1 33 (by simp)]; exact s2) k3 0
    rw [ca_eq hn] at q2 q3
    exact ⟨⟨p1, k1, q1⟩, q2, q3.2⟩
  · generalize e_X11_canvass μ = μa at m ⊢
    unfold p_X12_canvass v_X12_canvass e_X12_canvass
    simp only [forall_eq]
    have hm0 : MSR σ R (upI μa 49 0 0) := ⟨m.1.th 0, m.2.th 0⟩
    generalize upI μa 49 0 0 = μ0 at hm0 ⊢
    obtain ⟨k1, k2⟩ := M_l_canvass hm0.1
    rw [k2]
    obtain ⟨q1, q2, q3⟩ := M_fewT hm0 (o := (fwS (caE (s_F σ)) (2 ^ f_n (s_F σ))).1) (fun b hb => by
      have := ((fwS_ok (caE (s_F σ)) (2 ^ f_n (s_F σ))).2.2 b hb).1
      omega)
    exact ⟨⟨k1, q1⟩, q2, q3.2⟩
theorem call_clears (h : Sim σ R μ) : Call (p_X11_clears μ) (p_X12_clears (e_X11_clears μ)) (v_X11_clears μ) (v_X12_clears (e_X11_clears μ)) (e_X12_clears (e_X11_clears μ)) := by
  have fC := fr_X11_clears μ
  have m := h.m1 fC (by decide)
  have hn := h.1.g.1
  have hp7 := pow7 hn
  refine Two (v := fewV (fwS (clE (s_F σ)) (2 ^ f_n (s_F σ))).1) (R' := fewT (fwS (clE (s_F σ)) (2 ^ f_n (s_F σ))).1 R) h fC (fs_X12_clears _) ?_ ?_ (by decide) (by decide)
  · unfold p_X11_clears v_X11_clears e_X11_clears
    simp only [forall_eq]
    obtain ⟨p1, v1⟩ := C_moment h.2.1.F
    rw [v1, C_present h.2.1.F]
    have f1 := fr_X8_start (preA (s_F σ)) (momA (s_F σ)) μ
    obtain ⟨s1, s2⟩ := start_33 (preA (s_F σ)) (momA (s_F σ)) μ
    have c1 : CSR σ R (e_X8_start (preA (s_F σ)) (momA (s_F σ)) μ) := ⟨h.2.1.fr f1 (by decide), h.2.2.2.1.fr f1 (by decide)⟩
    generalize e_X8_start (preA (s_F σ)) (momA (s_F σ)) μ = μ2 at s1 s2 c1 ⊢
    obtain ⟨k1, k2, k3⟩ := C_gain_clears c1.1
    generalize whl _ _ FU _ = z at k2 k3 ⊢
    have c2 : CSR σ R z := ⟨c1.1.fr k2 (by decide), c1.2.fr k2 (by decide)⟩
    obtain ⟨q1, q2, q3, -⟩ := C_few hn c2 (base := momA (s_F σ)) (g := fun i => -ldF (s_F σ) i * f_p (s_F σ) i) (by rw [k2.1 33 (by simp)]; exact s1) (by rw [k2.1 33 (by simp)]; exact s2) k3 1
    rw [cl_eq hn] at q2 q3
    exact ⟨⟨p1, k1, q1⟩, q2, q3.2⟩
  · generalize e_X11_clears μ = μa at m ⊢
    unfold p_X12_clears v_X12_clears e_X12_clears
    simp only [forall_eq]
    have hm0 : MSR σ R (upI μa 49 0 0) := ⟨m.1.th 0, m.2.th 0⟩
    generalize upI μa 49 0 0 = μ0 at hm0 ⊢
    obtain ⟨k1, k2⟩ := M_l_clears hm0.1
    rw [k2]
    obtain ⟨q1, q2, q3⟩ := M_fewT hm0 (o := (fwS (clE (s_F σ)) (2 ^ f_n (s_F σ))).1) (fun b hb => by
      have := ((fwS_ok (clE (s_F σ)) (2 ^ f_n (s_F σ))).2.2 b hb).1
      omega)
    exact ⟨⟨k1, q1⟩, q2, q3.2⟩
/-! just -/
def juE (F : FL) (v : Int32) (s : Nat) : Bool := decide (nI s &&& f_o F = 0) && decide (lodO F (nI s) = v)
theorem ju_eq {F : FL} (hn : f_n F ≤ 7) (v : Int32) : fwS (srD F (fun i => ldF F i) (-v) 1) (pN F + 1) = fwS (juE F v) (2 ^ f_n F) := by
  refine fw_all hn (fun s => srD_sub) (fun s hs => ?_)
  unfold srD juE
  rw [← sub_off hn hs]
  cases q : subB F s
  · have : ¬ nI s &&& (preA F ^^^ (-1)) = 0 := of_decide_eq_false q
    rw [decide_eq_false this, Bool.false_and, Bool.false_and]
  · have q' : nI s &&& (preA F ^^^ (-1)) = 0 := of_decide_eq_true q
    rw [decide_eq_true q', lodO_s hn q]
    unfold doB
    rw [if_neg (by decide), Int32.add_comm]
    simp only [add_neg_0]
theorem M_l_just (hm : MS σ μ) (v : Int32) : whP (fun s : Int32 × Int32 × Int32 × Int32 => bd_X12_just_26 μ s.1 s.2.1 s.2.2.1 s.2.2.2) (fun s : Int32 × Int32 × Int32 × Int32 => sd_X12_just_26 μ s.1 s.2.1 s.2.2.1 s.2.2.2) FU (v, -1, 0, 0) ∧ whl (fun s : Int32 × Int32 × Int32 × Int32 => bd_X12_just_26 μ s.1 s.2.1 s.2.2.1 s.2.2.2) (fun _ : Int32 × Int32 × Int32 × Int32 => (0, 0)) FU (v, -1, 0, 0) = (bsM (fwS (juE (s_F σ) v) (2 ^ f_n (s_F σ))).1, nI (fwS (juE (s_F σ) v) (2 ^ f_n (s_F σ))).2) := by
  have hn := hm.F.1
  have hp7 := pow7 hn
  refine lpF (f := fun s : Int32 × Int32 × Int32 × Int32 => bd_X12_just_26 μ s.1 s.2.1 s.2.2.1 s.2.2.2) (sd := fun s : Int32 × Int32 × Int32 × Int32 => sd_X12_just_26 μ s.1 s.2.1 s.2.2.1 s.2.2.2) (dd := fun _ : Int32 × Int32 × Int32 × Int32 => (0, 0)) (fun s => (v, bsM (fwS (juE (s_F σ) v) s).1, nI (fwS (juE (s_F σ) v) s).2, nI s)) (2 ^ f_n (s_F σ)) (by omega) (fun s hs => ⟨?_, ?_⟩) ⟨?_, ?_⟩
  · intro _ _; exact (M_loadOf hm.F _).1
  · show bd_X12_just_26 μ _ _ _ (nI s) = _
    unfold bd_X12_just_26
    rw [all_N hm.F]
    simp only [gt_all hn (show s < 2 ^ 31 by omega), nI_1]
    rw [if_neg (show ¬ 2 ^ f_n (s_F σ) ≤ s by omega), (M_loadOf hm.F _).2, cl21, hm.F.o]
    have ef : fwS (juE (s_F σ) v) (s + 1) = if juE (s_F σ) v s then ((match (fwS (juE (s_F σ) v) s).1 with
        | none => some s
        | some b => if bcN b ≤ bcN s then some b else some s), (fwS (juE (s_F σ) v) s).2 + 1) else fwS (juE (s_F σ) v) s := rfl
    rw [ef]
    have ej : (if nI s &&& f_o (s_F σ) = 0 then (if lodO (s_F σ) (nI s) = v then (1 : Int32) else 0) else 0) = if juE (s_F σ) v s then 1 else 0 := by
      unfold juE
      by_cases q1 : nI s &&& f_o (s_F σ) = 0 <;> by_cases q2 : lodO (s_F σ) (nI s) = v <;> simp [q1, q2]
    rw [ej]
    by_cases q : juE (s_F σ) v s = true
    · simp only [if_pos q, show ¬ ((1 : Int32) = 0) from by decide, if_false]
      have ev : v_X12_flag 1 = 1 := by decide
      rw [ev, nI_1]
      cases hf : (fwS (juE (s_F σ) v) s).1 with
      | none =>
        have e : bsM none = -1 := rfl
        rw [e, fewer_n, if_neg (by decide)]
        rfl
      | some b =>
        have hb := ((fwS_ok (juE (s_F σ) v) s).2.2 b hf).1
        have e : bsM (some b) = nI b := rfl
        rw [e, fewer_s (by omega)]
        dsimp only
        by_cases q2 : bcN b ≤ bcN s
        · rw [if_pos q2, if_pos q2]; rfl
        · rw [if_neg q2, if_neg q2]; rfl
    · simp only [if_neg q, if_true]
      have ev : v_X12_flag 0 = 0 := by decide
      rw [ev, Int32.add_zero]
  · intro y
    rw [all_N hm.F] at y
    simp only [gt_all hn (show 2 ^ f_n (s_F σ) < 2 ^ 31 by omega)] at y
    exact absurd (Nat.le_refl _) y
  · show bd_X12_just_26 μ _ _ _ (nI (2 ^ f_n (s_F σ))) = _
    unfold bd_X12_just_26
    rw [all_N hm.F]
    simp only [gt_all hn (show 2 ^ f_n (s_F σ) < 2 ^ 31 by omega)]
    rw [if_pos (Nat.le_refl _)]
def juT (o : Option Nat × Nat) (R : List Int64) : List Int64 := match o.1 with
  | none => R
  | some b => [(nI b).toInt64, (nI o.2).toInt64]
theorem s99 : (99 : Int64).toInt = 99 := by decide +kernel
theorem t99 : (99 : Int32).toInt = 99 := by decide +kernel
theorem bc_nm2 {s : Nat} (hs : s < 128) : ¬ bcN s = -2 := by
  rw [bcN_c (n := 7) (by omega) (by simpa using hs)]
  have := cN_le (fun i => s.testBit i) 7
  exact nI_nm2 (by omega)
theorem call_just (h : Sim σ R μ) (v : Int32) : Call (p_X11_just v μ) (p_X12_just v (e_X11_just v μ)) (v_X11_just v μ) (v_X12_just v (e_X11_just v μ)) (e_X12_just v (e_X11_just v μ)) := by
  have fC := fr_X11_just v μ
  have m := h.m1 fC (by decide)
  have hn := h.1.g.1
  have hp7 := pow7 hn
  have hlt : ∀ b, (fwS (juE (s_F σ) v) (2 ^ f_n (s_F σ))).1 = some b → b < 128 := fun b hb => by
    have := ((fwS_ok (juE (s_F σ) v) (2 ^ f_n (s_F σ))).2.2 b hb).1
    omega
  refine Two (v := if inB v 0 99 then fewV (fwS (juE (s_F σ) v) (2 ^ f_n (s_F σ))).1 else -1) (R' := if inB v 0 99 then juT (fwS (juE (s_F σ) v) (2 ^ f_n (s_F σ))) R else R) h fC (fs_X12_just v _) ?_ ?_ (by decide) (by decide)
  · unfold p_X11_just v_X11_just e_X11_just
    simp only [forall_eq]
    rw [ite_in t0 t99, ite_in t0 t99, C_present h.2.1.F]
    have f1 := fr_X8_start (preA (s_F σ)) (-v) μ
    obtain ⟨s1, s2⟩ := start_33 (preA (s_F σ)) (-v) μ
    have c1 : CSR σ R (e_X8_start (preA (s_F σ)) (-v) μ) := ⟨h.2.1.fr f1 (by decide), h.2.2.2.1.fr f1 (by decide)⟩
    generalize e_X8_start (preA (s_F σ)) (-v) μ = μ2 at s1 s2 c1 ⊢
    obtain ⟨k1, k2, k3⟩ := C_gain_just c1.1
    generalize whl _ _ FU _ = z at k2 k3 ⊢
    have c2 : CSR σ R z := ⟨c1.1.fr k2 (by decide), c1.2.fr k2 (by decide)⟩
    obtain ⟨q1, q2, q3, q4⟩ := C_few hn c2 (base := -v) (g := fun i => ldF (s_F σ) i) (by rw [k2.1 33 (by simp)]; exact s1) (by rw [k2.1 33 (by simp)]; exact s2) k3 1
    rw [ju_eq hn] at q2 q3 q4
    rw [q2]
    generalize e_X11_tellFewest 1 z = μ7 at q3 q4 ⊢
    rw [q4]
    generalize fwS (juE (s_F σ) v) (2 ^ f_n (s_F σ)) = o at q3 hlt ⊢
    obtain ⟨o1, o2⟩ := o
    cases o1 with
    | none =>
      have e : fewV none = -2 := rfl
      dsimp only
      rw [e]
      simp only [if_true]
      refine ⟨fun _ _ => ⟨k1, q1, fun y => absurd trivial y⟩, trivial, ?_⟩
      cases inB v 0 99
      · exact h.2.2.2.1
      · exact q3.2
    | some b =>
      have e : fewV (some b) = bcN b := rfl
      dsimp only
      rw [e, if_neg (bc_nm2 (hlt b rfl))]
      obtain ⟨p8, c8⟩ := CSR_add q3 (show (fewT (some b) R).length < 16 by simp [fewT]) (nI o2).toInt64
      refine ⟨fun _ _ => ⟨k1, q1, fun _ => p8⟩, rfl, ?_⟩
      cases inB v 0 99
      · exact h.2.2.2.1
      · exact c8.2
  · generalize e_X11_just v μ = μa at m ⊢
    unfold p_X12_just v_X12_just e_X12_just
    simp only [forall_eq]
    have hm0 : MSR σ R (upI μa 49 0 0) := ⟨m.1.th 0, m.2.th 0⟩
    generalize upI μa 49 0 0 = μ0 at hm0 ⊢
    rw [in_B s0 s99]
    obtain ⟨k1, k2⟩ := M_l_just hm0.1 v
    rw [k2]
    dsimp only
    obtain ⟨q1, q2, q3⟩ := M_fewT hm0 (o := (fwS (juE (s_F σ) v) (2 ^ f_n (s_F σ))).1) (fun b hb => by have := hlt b hb; omega)
    rw [q2]
    generalize e_X12_entersFewest (bsM (fwS (juE (s_F σ) v) (2 ^ f_n (s_F σ))).1) μ0 = μ7 at q3 ⊢
    generalize fwS (juE (s_F σ) v) (2 ^ f_n (s_F σ)) = o at q1 q3 hlt ⊢
    obtain ⟨o1, o2⟩ := o
    cases o1 with
    | none =>
      have e : bsM none = -1 := rfl
      dsimp only
      rw [e, if_pos (show (-1 : Int32) < 0 by decide)]
      refine ⟨fun _ => ⟨k1, q1, fun y => absurd (by decide) y⟩, ?_, ?_⟩
      · cases inB v 0 99 <;> rfl
      · cases inB v 0 99
        · exact hm0.2
        · exact q3.2
    | some b =>
      have e : bsM (some b) = nI b := rfl
      have hb := hlt b rfl
      dsimp only
      rw [e, if_neg (nI_pos (by omega))]
      obtain ⟨p8, c8⟩ := MSR_add q3 (show (fewT (some b) R).length < 16 by simp [fewT]) (nI o2).toInt64
      refine ⟨fun _ => ⟨k1, q1, fun _ => p8⟩, ?_, ?_⟩
      · cases inB v 0 99 <;> rfl
      · cases inB v 0 99
        · exact hm0.2
        · exact c8.2
end FE

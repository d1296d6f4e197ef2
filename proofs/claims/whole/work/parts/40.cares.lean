/-! cares -/
theorem sg_late {σ : ST} {L : Nat} (hL : ∀ j, j < (s_S σ).length → ∃ n, n ≤ L ∧ (sgA (s_S σ) j).2.1 = nI n) (hL20 : L ≤ 20) {k w : Nat} : ∀ m, L + 1 ≤ m → m ≤ 21 → asW σ k w m = asW σ k w (L + 1) := by
  intro m
  induction m with
  | zero => intro h; omega
  | succ m ih =>
    intro h h2
    by_cases e : m = L
    · rw [e]
    · have hag : ∀ j, j ≤ (s_S σ).length → agN (s_S σ) m (wiG σ k w m) j = true := by
        intro j
        induction j with
        | zero => intro _; rfl
        | succ j ihj =>
          intro hj
          obtain ⟨n, hn, he⟩ := hL j (by omega)
          unfold agN
          rw [ihj (by omega), he, decide_eq_false (fun y => by rw [nI_eq (by omega) (by omega)] at y; omega)]
          rfl
      show (asW σ k w m && agN (s_S σ) m (wiG σ k w m) (s_S σ).length) = _
      rw [hag _ (Nat.le_refl _), Bool.and_true, ih (by omega) (by omega)]
def loW (P : Nat → Bool) : Nat → Int32
  | 0 => 0
  | w + 1 => if P w then (if mkb P w = 0 then pl w else loW P w) else loW P w
def grW (P : Nat → Bool) : Nat → Int32
  | 0 => 0
  | w + 1 => if P w then pl w else grW P w
theorem mkb_z {P : Nat → Bool} {n : Nat} (hn : n ≤ 31) (h : ∀ j, j < n → P j = false) : mkb P n = 0 := by
  apply b_ext
  intro i hi
  rw [bt_mkb hn hi, b_0]
  by_cases q : i < n
  · rw [h i q, Bool.and_false]
  · rw [decide_eq_false q, Bool.false_and]
theorem mkb_nz {P : Nat → Bool} {n t : Nat} (hn : n ≤ 31) (ht : t < n) (h : P t = true) : ¬ mkb P n = 0 := fun e => by
  have := bt_mkb (g := P) hn (show t < 32 by omega)
  rw [e, b_0, h, decide_eq_true ht] at this
  exact absurd this (by decide)
theorem lg_ok (P : Nat → Bool) : ∀ n, n ≤ 19 → (∀ j, j < n → P j = false) ∨ ∃ t u, t < n ∧ u < n ∧ P t = true ∧ (∀ j, j < t → P j = false) ∧ P u = true ∧ (∀ j, u < j → j < n → P j = false) ∧ loW P n = pl t ∧ grW P n = pl u
  | 0, _ => .inl (fun j h => absurd h (by omega))
  | n + 1, h => by
    have el : loW P (n + 1) = if P n then (if mkb P n = 0 then pl n else loW P n) else loW P n := rfl
    have eg : grW P (n + 1) = if P n then pl n else grW P n := rfl
    rw [el, eg]
    rcases lg_ok P n (by omega) with a | ⟨t, u, a1, a2, a3, a4, a5, a6, a7, a8⟩
    · cases q : P n
      · exact .inl (fun j hj => by
          by_cases e : j = n
          · rw [e]; exact q
          · exact a j (by omega))
      · rw [mkb_z (by omega) a]
        exact .inr ⟨n, n, by omega, by omega, q, a, q, fun j h1 h2 => absurd h1 (by omega), by simp, by simp⟩
    · cases q : P n
      · refine .inr ⟨t, u, by omega, by omega, a3, a4, a5, fun j h1 h2 => ?_, by simpa using a7, by simpa using a8⟩
        by_cases e : j = n
        · rw [e]; exact q
        · exact a6 j h1 (by omega)
      · have := mkb_nz (n := n) (by omega) a1 a3
        refine .inr ⟨t, n, by omega, by omega, a3, a4, q, fun j h1 h2 => absurd h1 (by omega), ?_, by simp⟩
        simp only [if_true]
        rw [if_neg this]; exact a7
def caT (P : Nat → Bool) : List Int64 := if mkb P 19 = 0 then [(v_J6_bitCount_0f7a4 (mkb P 19)).toInt64] else [(v_J6_bitCount_0f7a4 (mkb P 19)).toInt64, (100 + loW P 19).toInt64, (100 + grW P 19).toInt64]
theorem ca_t : ∀ t, t < 19 → (91 : Int32) + nI t = 100 + pl t ∧ (122 : Int32) - nI (31 - t) = 100 + pl t := by decide +kernel
theorem pl_9 : ∀ w, w < 19 → (9 : Int32) + pl w = nI w := by decide +kernel
section CB
variable {σ : ST} {R : List Int64} {μ : Mm}
theorem C_latest (ok : OK σ) (hc : CS σ μ) : p_X6_latest μ ∧ ∃ L, L ≤ 20 ∧ v_X6_latest μ = nI L ∧ ∀ j, j < (s_S σ).length → ∃ n, n ≤ L ∧ (sgA (s_S σ) j).2.1 = nI n := by
  have hS := hc.S
  have hl := hS.1
  refine lpI (f := fun s : Int32 × Int32 => bd_X6_latest_4 μ s.1 s.2) (sd := fun s : Int32 × Int32 => sd_X6_latest_4 μ s.1 s.2) (dd := fun _ : Int32 × Int32 => 0) (I := fun i s => i ≤ (s_S σ).length ∧ ∃ L, L ≤ 20 ∧ s = (nI L, nI i) ∧ ∀ j, j < i → ∃ n, n ≤ L ∧ (sgA (s_S σ) j).2.1 = nI n)
    (R := fun z => ∃ L, L ≤ 20 ∧ z = nI L ∧ ∀ j, j < (s_S σ).length → ∃ n, n ≤ L ∧ (sgA (s_S σ) j).2.1 = nI n) (s_S σ).length (by omega) ?_ (s0 := (0, 0)) ⟨Nat.zero_le _, 0, by omega, rfl, fun j h => absurd h (by omega)⟩
  rintro i _ hi ⟨hi2, L, hL, rfl, hg⟩
  dsimp only
  unfold sd_X6_latest_4 bd_X6_latest_4
  rw [hS.2.1, nI_1]
  simp only [nI_leI (show (s_S σ).length < 2 ^ 31 by omega) (show i < 2 ^ 31 by omega), nI_clamp (show i < 2 ^ 31 by omega)]
  rcases Nat.lt_or_ge i (s_S σ).length with z | z
  · obtain ⟨e1, e2, e3⟩ := hS.2.2 i z
    have e2' : μ.1 40 i = (sgA (s_S σ) i).2.1 := e2
    obtain ⟨-, -, n, hn, he⟩ := ok.sg z
    rw [if_neg (show ¬ (s_S σ).length ≤ i by omega), e2', he]
    refine ⟨fun _ => vp_in_nI (by omega) (by omega), .inl ⟨_, rfl, z, z, if L < n then n else L, by split <;> omega, ?_, fun j hj => ?_⟩⟩
    · simp only [nI_ltI (show L < 2 ^ 31 by omega) (show n < 2 ^ 31 by omega)]
      by_cases q : L < n
      · rw [if_pos q, if_pos q]
      · rw [if_neg q, if_neg q]
    · by_cases e : j = i
      · subst e; exact ⟨n, by split <;> omega, he⟩
      · obtain ⟨m, hm, hme⟩ := hg j (by omega)
        exact ⟨m, by split <;> omega, hme⟩
  · have : i = (s_S σ).length := by omega
    subst this
    rw [if_pos (Nat.le_refl _)]
    exact ⟨fun y => absurd (Nat.le_refl _) y, .inr ⟨_, rfl, L, hL, rfl, hg⟩⟩
theorem call_cares (h : Sim σ R μ) (x : Int32) : Call (p_X11_cares x μ) (p_X12_cares x (e_X11_cares x μ)) (v_X11_cares x μ) (v_X12_cares x (e_X11_cares x μ)) (e_X12_cares x (e_X11_cares x μ)) := by
  have fC := fr_X11_cares x μ
  have m := h.m1 fC (by decide)
  have hn := h.1.g.1
  have ok := h.1
  by_cases hk : hasF (s_F σ) x = true
  · obtain ⟨kc, ke⟩ := hasF_cl hn hk
    refine Two (v := mkb (fun w => asW σ x.toNatClampNeg w 21) 19) (R' := caT (fun w => asW σ x.toNatClampNeg w 21)) h fC (fs_X12_cares _ _) ?_ ?_ (by decide) (by decide)
    · unfold p_X11_cares v_X11_cares e_X11_cares
      rw [C_has h.2.1.F, hk]
      simp only [forall_eq, if_true, show ¬ ((1 : Int32) = 0) from by decide, if_false, not_false_eq_true, true_imp_iff]
      generalize x.toNatClampNeg = k at kc ke ⊢
      subst ke
      obtain ⟨p1, L, hL, v1, hg⟩ := C_latest ok h.2.1
      rw [v1]
      have eW : ∀ w, asW σ k w (L + 1) = asW σ k w 21 := fun w => (sg_late hg hL 21 (by omega) (by omega)).symm
      have key := lpI (f := fun s : Int32 × Int32 × Int32 × Int32 × Int32 × Int32 × Mm => bd_X11_cares_33 s.1 s.2.1 s.2.2.1 s.2.2.2.1 s.2.2.2.2.1 s.2.2.2.2.2.1 s.2.2.2.2.2.2) (sd := fun s : Int32 × Int32 × Int32 × Int32 × Int32 × Int32 × Mm => sd_X11_cares_33 s.1 s.2.1 s.2.2.1 s.2.2.2.1 s.2.2.2.2.1 s.2.2.2.2.2.1 s.2.2.2.2.2.2) (dd := fun s : Int32 × Int32 × Int32 × Int32 × Int32 × Int32 × Mm => (0, 0, 0, s.2.2.2.2.2.2)) (I := fun i s => i ≤ 19 ∧ ∃ μ', s = (nI k, nI L, mkb (fun w => asW σ k w 21) i, loW (fun w => asW σ k w 21) i, grW (fun w => asW σ k w 21) i, pl i, μ') ∧ CSR σ R μ')
        (R := fun z => z.1 = mkb (fun w => asW σ k w 21) 19 ∧ z.2.1 = loW (fun w => asW σ k w 21) 19 ∧ z.2.2.1 = grW (fun w => asW σ k w 21) 19 ∧ CSR σ R z.2.2.2) 19 (by omega) ?_ (s0 := (nI k, nI L, 0, 0, 0, -9, μ)) ⟨by omega, μ, rfl, h.2.1, h.2.2.2.1⟩
      · obtain ⟨k1, k2, k3, k4, k5⟩ := key
        generalize whl _ _ FU _ = z at k2 k3 k4 k5 ⊢
        rw [k2, k3, k4]
        generalize (fun w => asW σ k w 21) = P
        obtain ⟨q1, q2⟩ := CSR_add (CSR_begin k5) (by simp) (v_J6_bitCount_0f7a4 (mkb P 19)).toInt64
        obtain ⟨q3, q4⟩ := CSR_add q2 (by simp) (100 + loW P 19).toInt64
        obtain ⟨q5, q6⟩ := CSR_add q4 (by simp) (100 + grW P 19).toInt64
        refine ⟨⟨p1, k1, q1, fun _ => ⟨q3, q5⟩⟩, rfl, ?_⟩
        unfold caT
        by_cases q : mkb P 19 = 0
        · rw [if_pos q, if_pos q]; exact q2.2
        · rw [if_neg q, if_neg q]; exact q6.2
      · rintro i _ hi ⟨hi2, μ', rfl, ht⟩
        dsimp only
        unfold sd_X11_cares_33 bd_X11_cares_33
        rcases Nat.lt_or_ge 18 i with z | z
        · have : i = 19 := by omega
          subst this
          have g9 : (9 : Int32) < pl 19 := by decide
          rw [if_pos g9]
          exact ⟨fun y => absurd g9 y, .inr ⟨_, rfl, rfl, rfl, rfl, ht⟩⟩
        · obtain ⟨-, f2, f3⟩ := pl_f i (by omega)
          have g9 : ¬ ((9 : Int32) < pl i) := fun y => by have := f3.mp y; omega
          obtain ⟨a1, a2, -⟩ := C_couldWish ok ht kc (w := i) (by omega) hL
          have f := fr_X11_couldWish (nI k) (pl i) (nI L) μ'
          rw [if_neg g9, f2, a2, eW, pl_9 i (by omega)]
          simp only [one0]
          refine ⟨fun _ => a1, .inl ⟨_, rfl, by omega, by omega, _, ?_, ht.1.fr f (by decide), ht.2.fr f (by decide)⟩⟩
          have e1 : mkb (fun w => asW σ k w 21) (i + 1) = mkb (fun w => asW σ k w 21) i ||| (if asW σ k i 21 then 1 <<< (nI i &&& 31) else 0) := rfl
          have e2 : loW (fun w => asW σ k w 21) (i + 1) = if asW σ k i 21 then (if mkb (fun w => asW σ k w 21) i = 0 then pl i else loW (fun w => asW σ k w 21) i) else loW (fun w => asW σ k w 21) i := rfl
          have e3 : grW (fun w => asW σ k w 21) (i + 1) = if asW σ k i 21 then pl i else grW (fun w => asW σ k w 21) i := rfl
          rw [e1, e2, e3]
          cases asW σ k i 21
          · simp
          · simp
    · generalize e_X11_cares x μ = μa at m ⊢
      unfold p_X12_cares v_X12_cares e_X12_cares
      simp only [forall_eq]
      have hm0 : MSR σ R (upI μa 49 0 0) := ⟨m.1.th 0, m.2.th 0⟩
      generalize upI μa 49 0 0 = μ0 at hm0 ⊢
      rw [M_isOne hm0.1.F, hk]
      simp only [if_true, show ¬ ((1 : Int32) = 0) from by decide, if_false, not_false_eq_true, true_imp_iff]
      generalize x.toNatClampNeg = k at kc ke ⊢
      subst ke
      obtain ⟨a1, a2, -⟩ := M_wishesOf ok hm0 kc
      have f := fs_X12_wishesOf (nI k) μ0
      have hm1 : MSR σ R (e_X12_wishesOf (nI k) μ0) := ⟨hm0.1.fs f (by decide), hm0.2.fs f (by decide)⟩
      rw [a2]
      generalize e_X12_wishesOf (nI k) μ0 = μ1 at hm1 ⊢
      generalize (fun w => asW σ k w 21) = P
      obtain ⟨q1, q2⟩ := MSR_add (MSR_begin hm1) (by simp) (v_J6_bitCount_0f7a4 (mkb P 19)).toInt64
      obtain ⟨q3, q4⟩ := MSR_add q2 (by simp) (91 + v_J6_numberOfTrailingZeros_0f7a4 (mkb P 19)).toInt64
      obtain ⟨q5, q6⟩ := MSR_add q4 (by simp) (122 - v_J6_numberOfLeadingZeros_0f7a4 (mkb P 19)).toInt64
      refine ⟨⟨a1, q1, fun _ => ⟨q3, q5⟩⟩, rfl, ?_⟩
      unfold caT
      by_cases q : mkb P 19 = 0
      · rw [if_pos q, if_pos q]; exact q2.2
      · rw [if_neg q, if_neg q]
        rcases lg_ok P 19 (by omega) with y | ⟨t, u, b1, b2, b3, b4, b5, b6, b7, b8⟩
        · exact absurd (mkb_z (by omega) y) q
        · rw [b7, b8, ← (ca_t t b1).1, ← (ca_t u b2).2, ← ntz_N b1 b3 b4, ← nlz_N b2 b5 b6]
          exact q6.2
  · have hk' : hasF (s_F σ) x = false := by simpa using hk
    refine Two (v := -1) (R' := R) h fC (fs_X12_cares _ _) ?_ ?_ (by decide) (by decide)
    · unfold p_X11_cares v_X11_cares e_X11_cares
      rw [C_has h.2.1.F, hk']
      simp only [Bool.false_eq_true, if_false, if_true]
      exact ⟨fun z => absurd trivial z, trivial, h.2.2.2.1⟩
    · generalize e_X11_cares x μ = μa at m ⊢
      unfold p_X12_cares v_X12_cares e_X12_cares
      simp only [forall_eq]
      have hm0 : MSR σ R (upI μa 49 0 0) := ⟨m.1.th 0, m.2.th 0⟩
      generalize upI μa 49 0 0 = μ0 at hm0 ⊢
      rw [M_isOne hm0.1.F, hk']
      simp only [Bool.false_eq_true, if_false, if_true]
      exact ⟨fun z => absurd trivial z, trivial, hm0.2⟩
end CB

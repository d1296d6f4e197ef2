/-! a fraction in lowest terms -/
def En : Nat → Nat → Nat → Prop
  | 0, _, b => b = 0
  | n + 1, a, b => b = 0 ∨ En n b (a % b)
theorem En_up : ∀ {n a b : Nat}, En n a b → En (n + 1) a b
  | 0, _, _, h => .inl h
  | n + 1, a, b, h => by
    rcases h with h | h
    · exact .inl h
    · exact .inr (En_up h)
theorem En_log : ∀ {k a b : Nat}, b < 2 ^ k → En (2 * k) a b
  | 0, _, b, h => by
    show b = 0
    have : b < 1 := h
    omega
  | k + 1, a, b, h => by
    show En (2 * k + 1 + 1) a b
    by_cases q : b = 0
    · exact .inl q
    · refine .inr ?_
      show (a % b = 0) ∨ En (2 * k) (a % b) (b % (a % b))
      by_cases q2 : a % b = 0
      · exact .inl q2
      · refine .inr (En_log ?_)
        have h1 : a % b < b := Nat.mod_lt _ (by omega)
        have h2 : b % (a % b) < a % b := Nat.mod_lt _ (by omega)
        have h3 : b % (a % b) ≤ b - a % b := by
          have := Nat.mod_eq_sub_mod (show a % b ≤ b by omega)
          rw [this]
          exact Nat.mod_le _ _
        rw [Nat.pow_succ] at h
        omega
theorem gcd_step (a b : Nat) : Nat.gcd b (a % b) = Nat.gcd a b := by
  rw [Nat.gcd_comm a b, Nat.gcd_rec b a, Nat.gcd_comm]
theorem cmp_0 (x : Int64) : (lg_cmp x 0 = 0) ↔ x = 0 := by
  have h1 := lg_cmp_lt x 0
  have h2 := lg_cmp_gt x 0
  rw [fa_lt, t0] at h1 h2
  rw [fa_eq, t0]
  rw [fa_lt64, s0] at h1 h2
  rw [fa_eq64, s0]
  omega
theorem cmp_le (x : Int64) : (lg_cmp x 0 ≤ 0) ↔ x.toInt ≤ 0 := by
  have h2 := lg_cmp_gt x 0
  rw [fa_lt, t0, fa_lt64, s0] at h2
  rw [fa_le, t0]
  omega
theorem lN_0 {n : Nat} (h : n < 2 ^ 31) : lN n = 0 ↔ n = 0 := lN_eq (b := 0) h (by omega)
theorem F_com : ∀ {m n a b : Nat}, a < 2 ^ 31 → b < 2 ^ 31 → En m a b → m < n → F_common n (lN a) (lN b) = lN (Nat.gcd a b) ∧ P_common n (lN a) (lN b)
  | m, 0, _, _, _, _, _, h => by omega
  | m, n + 1, a, b, ha, hb, he, h => by
    unfold F_common P_common
    simp only [cmp_0, lN_0 hb]
    by_cases q : b = 0
    · subst q
      rw [if_pos rfl, Nat.gcd_zero_right]
      exact ⟨rfl, fun y => absurd rfl y⟩
    · rw [if_neg q, pk_lRem (by omega) (by omega) (by omega)]
      have hm : a % b < b := Nat.mod_lt _ (by omega)
      match m, he with
      | 0, he => exact absurd he q
      | m + 1, he =>
        rcases he with he | he
        · exact absurd he q
        · obtain ⟨f1, f2⟩ := F_com hb (show a % b < 2 ^ 31 by omega) he (show m < n by omega)
          rw [f1, gcd_step]
          exact ⟨rfl, fun _ => ⟨q, f2⟩⟩
section FR
variable {σ : ST} {R : List Int64} {μ : Mm}
def frT (u d : Nat) : List Int64 := [lN (u / Nat.gcd u d), lN (d / Nat.gcd u d)]
theorem C_frac (hc : CSR σ R μ) {u d : Nat} (hu : u < 2 ^ 31) (hd : d < 2 ^ 31) (h0 : 0 < d) : p_X11_tellFraction (lN u) (lN d) μ ∧ CSR σ (frT u d) (e_X11_tellFraction (lN u) (lN d) μ) := by
  have hg0 : 0 < Nat.gcd u d := Nat.gcd_pos_of_pos_right _ h0
  have hgl : Nat.gcd u d ≤ d := Nat.gcd_le_right _ h0
  have key := lpI (f := fun s : Int64 × Int64 × Int64 × Int64 × Int32 => bd_X11_tellFraction_9 μ s.1 s.2.1 s.2.2.1 s.2.2.2.1 s.2.2.2.2) (sd := fun s : Int64 × Int64 × Int64 × Int64 × Int32 => sd_X11_tellFraction_9 μ s.1 s.2.1 s.2.2.1 s.2.2.2.1 s.2.2.2.2) (dd := fun _ : Int64 × Int64 × Int64 × Int64 × Int32 => (0, 0, 0))
    (I := fun i s => i ≤ 62 ∧ ∃ a b, s = (lN u, lN d, lN a, lN b, nI i) ∧ a < 2 ^ 31 ∧ b < 2 ^ 31 ∧ Nat.gcd a b = Nat.gcd u d ∧ En (62 - i) a b)
    (R := fun z => z = (lN u, lN d, lN (Nat.gcd u d))) 62 (by omega) ?_ (s0 := (lN u, lN d, lN d, lN u, 0)) ⟨Nat.zero_le _, d, u, rfl, hd, hu, Nat.gcd_comm _ _, En_log (k := 31) hu⟩
  · obtain ⟨k1, k2⟩ := key
    unfold p_X11_tellFraction e_X11_tellFraction
    simp only [forall_eq]
    rw [k2]
    have hg : ¬ lg_cmp (lN (Nat.gcd u d)) 0 ≤ 0 := by rw [cmp_le, lN_toInt (by omega)]; omega
    simp only [if_neg hg]
    rw [pk_lDiv (by omega) hg0 (by omega), pk_lDiv (by omega) hg0 (by omega)]
    have hne : ¬ lN (Nat.gcd u d) = 0 := by rw [lN_0 (by omega)]; omega
    obtain ⟨p2, c2⟩ := CSR_add (CSR_begin hc) (by simp) (lN (u / Nat.gcd u d))
    obtain ⟨p3, c3⟩ := CSR_add c2 (by simp) (lN (d / Nat.gcd u d))
    exact ⟨⟨k1, hne, p2, hne, p3⟩, c3⟩
  · rintro i _ hi ⟨hi2, a, b, rfl, ha, hb, hg, he⟩
    dsimp only
    unfold sd_X11_tellFraction_9 bd_X11_tellFraction_9
    have g100 : ¬ ((100 : Int32) ≤ nI i) := nI_ge (b := 100) (by omega) (by omega)
    rw [if_neg g100]
    simp only [cmp_0, lN_0 hb]
    refine ⟨fun _ y => y, ?_⟩
    by_cases q : b = 0
    · rw [if_pos q]
      subst q
      rw [Nat.gcd_zero_right] at hg
      exact .inr ⟨_, rfl, by rw [hg]⟩
    · rw [if_neg q, pk_lRem (by omega) (by omega) (by omega), nI_1]
      have hm : a % b < b := Nat.mod_lt _ (by omega)
      have hlt : i < 62 := by
        rcases Nat.lt_or_ge i 62 with z | z
        · exact z
        · rw [show 62 - i = 0 by omega] at he; exact absurd he q
      rw [show 62 - i = (62 - (i + 1)) + 1 by omega] at he
      rcases he with he | he
      · exact absurd he q
      · exact .inl ⟨_, rfl, hlt, by omega, b, a % b, rfl, hb, by omega, by rw [gcd_step]; exact hg, he⟩
theorem M_frac (hm : MSR σ R μ) {u d : Nat} (hu : u < 2 ^ 31) (hd : d < 2 ^ 31) (h0 : 0 < d) : p_X12_entersFraction (lN u) (lN d) μ ∧ MSR σ (frT u d) (e_X12_entersFraction (lN u) (lN d) μ) := by
  have hg0 : 0 < Nat.gcd u d := Nat.gcd_pos_of_pos_right _ h0
  have hgl : Nat.gcd u d ≤ d := Nat.gcd_le_right _ h0
  obtain ⟨f1, f2⟩ := F_com (m := 62) (n := 100) hu hd (En_log (k := 31) hd) (by omega)
  unfold p_X12_entersFraction e_X12_entersFraction p_X12_common v_X12_common
  simp only [forall_eq]
  rw [f1, pk_lDiv (by omega) hg0 (by omega), pk_lDiv (by omega) hg0 (by omega)]
  have hne : ¬ lN (Nat.gcd u d) = 0 := by rw [lN_0 (by omega)]; omega
  obtain ⟨p2, c2⟩ := MSR_add (MSR_begin hm) (by simp) (lN (u / Nat.gcd u d))
  obtain ⟨p3, c3⟩ := MSR_add c2 (by simp) (lN (d / Nat.gcd u d))
  exact ⟨⟨f2, hne, p2, hne, p3⟩, c3⟩
theorem fs_X12_entersFraction (a b : Int64) (μ : Mm) : Fs [50, 1001] μ (e_X12_entersFraction a b μ) := by
  unfold e_X12_entersFraction
  dsimp only
  exact ((Fs.upF Fs.rfl (by simp)).call (fs_X12_enters _ _) (by simp)).call (fs_X12_enters _ _) (by simp)
theorem fs_X12_power (x : Int32) (μ : Mm) : Fs [50, 1000, 1001] μ (e_X12_power x μ) := by
  unfold e_X12_power
  dsimp only
  exact Fs.ite (Fs.upF Fs.rfl (by simp)) (Fs.ite ((Fs.upF Fs.rfl (by simp)).call (fs_X12_entersFraction _ _ _) (by simp)) (Fs.upF Fs.rfl (by simp)))
theorem fs_X12_faints (x : Int32) (μ : Mm) : Fs [50, 1000, 1001] μ (e_X12_faints x μ) := by
  unfold e_X12_faints
  dsimp only
  exact Fs.ite (Fs.upF Fs.rfl (by simp)) ((Fs.upF Fs.rfl (by simp)).call (fs_X12_entersFraction _ _ _) (by simp))
end FR

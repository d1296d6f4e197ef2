/-! crossings, plank -/
theorem halfE : ∀ x, x ≤ 9 → (-(nI x / 2)) = (-nI x) / 2 := by decide +kernel
theorem gg {x y : Nat} (hx : x ≤ 9) (hy : y ≤ 9) (v : Int32) : v_X11_gained (nI x) (nI y) v = v_X12_gets (nI x) (nI y) v := by
  unfold v_X11_gained v_X12_gets
  simp only [nI_eq (show x < 2 ^ 31 by omega) (show y < 2 ^ 31 by omega), nI_leI (show x < 2 ^ 31 by omega) (show y < 2 ^ 31 by omega)]
  by_cases e : x = y
  · subst e
    rw [if_pos rfl, if_pos (Nat.le_refl _), if_pos rfl]
    exact halfE x hx
  · rw [if_neg e]
    by_cases q : x ≤ y
    · rw [if_pos q, if_pos q, if_neg e]
    · rw [if_neg q, if_neg q]
def bsB (x y : Nat) (v : Int32) : Nat → Bool
  | 0 => true
  | o + 1 => bsB x y v o && decide (v_X11_gained (nI o) (nI y) v ≤ v_X11_gained (nI x) (nI y) v)
theorem bsB_ff {x y : Nat} {v : Int32} : ∀ {i n : Nat}, i ≤ n → bsB x y v i = false → bsB x y v n = false
  | i, 0, hi, h => by have : i = 0 := by omega
                      subst this; exact h
  | i, n + 1, hi, h => by
    by_cases e : i = n + 1
    · subst e; exact h
    · show (bsB x y v n && _) = false
      rw [bsB_ff (show i ≤ n by omega) h]; rfl
section CR
variable {σ : ST} {R : List Int64} {μ : Mm}
theorem C_isBest {x y : Nat} (v : Int32) : p_X11_isBest (nI x) (nI y) v μ ∧ v_X11_isBest (nI x) (nI y) v μ = if bsB x y v 10 then 1 else 0 := by
  refine lpI (f := fun s : Int32 × Int32 × Int32 × Int32 => bd_X11_isBest_2 μ s.1 s.2.1 s.2.2.1 s.2.2.2) (sd := fun s : Int32 × Int32 × Int32 × Int32 => sd_X11_isBest_2 μ s.1 s.2.1 s.2.2.1 s.2.2.2) (dd := fun _ : Int32 × Int32 × Int32 × Int32 => 0)
    (I := fun o s => o ≤ 10 ∧ s = (nI x, nI y, v, nI o) ∧ bsB x y v o = true)
    (R := fun z => z = if bsB x y v 10 then 1 else 0) 10 (by omega) ?_ (s0 := (nI x, nI y, v, 0)) ⟨Nat.zero_le _, rfl, rfl⟩
  rintro o _ ho ⟨ho2, rfl, hb⟩
  dsimp only
  unfold sd_X11_isBest_2 bd_X11_isBest_2
  simp only [gt9 (show o < 2 ^ 31 by omega), nI_1]
  refine ⟨trivial, ?_⟩
  rcases Nat.lt_or_ge 9 o with z | z
  · have : o = 10 := by omega
    subst this
    rw [if_pos z]
    exact .inr ⟨_, rfl, by rw [hb]; rfl⟩
  · rw [if_neg (show ¬ 9 < o by omega)]
    by_cases q : v_X11_gained (nI o) (nI y) v ≤ v_X11_gained (nI x) (nI y) v
    · rw [if_pos q]
      refine .inl ⟨_, rfl, by omega, by omega, rfl, ?_⟩
      show (bsB x y v o && decide (v_X11_gained (nI o) (nI y) v ≤ v_X11_gained (nI x) (nI y) v)) = true
      rw [hb, decide_eq_true q]; rfl
    · rw [if_neg q]
      have : bsB x y v (o + 1) = false := by
        show (bsB x y v o && decide (v_X11_gained (nI o) (nI y) v ≤ v_X11_gained (nI x) (nI y) v)) = false
        rw [decide_eq_false q, Bool.and_false]
      exact .inr ⟨_, rfl, by rw [bsB_ff (show o + 1 ≤ 10 by omega) this]; rfl⟩
theorem M_isRest {x y : Nat} (hx : x ≤ 9) (hy : y ≤ 9) (v : Int32) : p_X12_isRest (nI x) (nI y) v μ ∧ v_X12_isRest (nI x) (nI y) v μ = if bsB x y v 10 then 1 else 0 := by
  have key := lpI (f := fun s : Int32 × Int32 × Int32 × Int32 × Int32 => bd_X12_isRest_5 μ s.1 s.2.1 s.2.2.1 s.2.2.2.1 s.2.2.2.2) (sd := fun s : Int32 × Int32 × Int32 × Int32 × Int32 => sd_X12_isRest_5 μ s.1 s.2.1 s.2.2.1 s.2.2.2.1 s.2.2.2.2) (dd := fun _ : Int32 × Int32 × Int32 × Int32 × Int32 => 0)
    (I := fun o s => o ≤ 10 ∧ s = (nI x, nI y, v, (if bsB x y v o then 1 else 0), nI o))
    (R := fun z => z = if bsB x y v 10 then 1 else 0) 10 (by omega) ?_ (s0 := (nI x, nI y, v, 1, 0)) ⟨Nat.zero_le _, rfl⟩
  · obtain ⟨k1, k2⟩ := key
    refine ⟨⟨k1, fun r2 e => ?_⟩, k2⟩
    rw [e, k2]
    cases bsB x y v 10 <;> rfl
  rintro o _ ho ⟨ho2, rfl⟩
  dsimp only
  unfold sd_X12_isRest_5 bd_X12_isRest_5
  simp only [gt9 (show o < 2 ^ 31 by omega), nI_1, one0]
  refine ⟨trivial, ?_⟩
  rcases Nat.lt_or_ge 9 o with z | z
  · have : o = 10 := by omega
    subst this
    rw [if_pos z]
    exact .inr ⟨_, rfl, rfl⟩
  · rw [if_neg (show ¬ 9 < o by omega), ← gg hx hy, ← gg (show o ≤ 9 by omega) hy]
    refine .inl ⟨_, rfl, by omega, by omega, ?_⟩
    show _ = (nI x, nI y, v, (if (bsB x y v o && decide (v_X11_gained (nI o) (nI y) v ≤ v_X11_gained (nI x) (nI y) v)) then (1 : Int32) else 0), nI (o + 1))
    generalize v_X11_gained (nI o) (nI y) v = g1
    generalize v_X11_gained (nI x) (nI y) v = g2
    have q0 : (g2 < g1) ↔ ¬ g1 ≤ g2 := by rw [fa_lt, fa_le]; omega
    by_cases q : g1 ≤ g2 <;> cases bsB x y v o <;> simp [q, q0]
theorem call_crossings (h : Sim σ R μ) (v : Int32) : Call (p_X11_crossings v μ) (p_X12_crossings v (e_X11_crossings v μ)) (v_X11_crossings v μ) (v_X12_crossings v (e_X11_crossings v μ)) (e_X12_crossings v (e_X11_crossings v μ)) := by
  have fC := fr_X11_crossings v μ
  have m := h.m1 fC (by decide)
  refine Two2 h fC (fs_X12_crossings v _) ?_ (by decide) (by decide)
  have c1 := CSR_begin (σ := σ) (R := R) ⟨h.2.1, h.2.2.2.1⟩
  have hm0 : MSR σ R (upI (e_X11_crossings v μ) 49 0 0) := ⟨m.1.th 0, m.2.th 0⟩
  have d1 := MSR_begin hm0
  unfold p_X12_crossings v_X12_crossings e_X12_crossings
  simp only [forall_eq]
  generalize upI (e_X11_crossings v μ) 49 0 0 = ν0 at hm0 d1 ⊢
  generalize upI ν0 49 1 0 = ν1 at d1 ⊢
  unfold p_X11_crossings v_X11_crossings e_X11_crossings
  simp only [forall_eq]
  rw [ite_in t0 t20, ite_in t0 t20, in_B s0 s20]
  generalize e_X10_begin μ = μ1 at c1 ⊢
  have key := lq2 (f := fun s : Int32 × Int32 × Int32 × Mm => bd_X11_crossings_23 s.1 s.2.1 s.2.2.1 s.2.2.2) (sd := fun s : Int32 × Int32 × Int32 × Mm => sd_X11_crossings_23 s.1 s.2.1 s.2.2.1 s.2.2.2) (dd := fun s : Int32 × Int32 × Int32 × Mm => (0, s.2.2.2)) (f' := fun s : Int32 × Int32 × Int32 × Mm => bd_X12_crossings_28 s.1 s.2.1 s.2.2.1 s.2.2.2) (sd' := fun s : Int32 × Int32 × Int32 × Mm => sd_X12_crossings_28 s.1 s.2.1 s.2.2.1 s.2.2.2) (dd' := fun s : Int32 × Int32 × Int32 × Mm => (0, s.2.2.2))
    (I := fun x s s' => x ≤ 10 ∧ ∃ c R μ μ', s = (v, c, nI x, μ) ∧ s' = (v, c, nI x, μ') ∧ BkI σ (10 * x) c R μ μ') (R := fun r r' => r.1 = r'.1 ∧ ∃ R, CSR σ R r.2 ∧ MSR σ R r'.2) 10 (by omega) ?_ (s0 := (v, 0, 0, μ1)) (s0' := (v, 0, 0, ν1)) ⟨Nat.zero_le _, 0, [], μ1, ν1, rfl, rfl, c1, d1, 0, by omega, rfl, fun _ => rfl, by simp⟩
  · obtain ⟨k1, k2, k3, R', k4, k5⟩ := key
    refine ⟨fun _ _ => k1, fun _ => k2, ?_⟩
    cases inB v 0 20
    · simp only [Bool.false_eq_true, if_false, if_true]
      exact ⟨trivial, R, h.2.2.2.1, hm0.2⟩
    · simp only [if_true, show ¬ ((1 : Int32) = 0) from by decide, if_false]
      exact ⟨k3, R', k4.2, k5.2⟩
  · rintro x _ _ hx ⟨hx2, c, R1, μa, μb, rfl, rfl, hI⟩
    dsimp only
    unfold sd_X11_crossings_23 sd_X12_crossings_28 bd_X11_crossings_23 bd_X12_crossings_28
    simp only [gt9 (show x < 2 ^ 31 by omega)]
    rcases Nat.lt_or_ge 9 x with y9 | y9
    · have : x = 10 := by omega
      subst this
      rw [if_pos y9, if_pos y9]
      exact ⟨fun y => absurd y9 y, fun y => absurd y9 y, .inr ⟨_, _, rfl, rfl, rfl, R1, hI.1, hI.2.1⟩⟩
    · rw [if_neg (show ¬ 9 < x by omega), if_neg (show ¬ 9 < x by omega)]
      have k2 := lq2 (f := fun s : Int32 × Int32 × Int32 × Int32 × Mm => bd_X11_crossings_32 s.1 s.2.1 s.2.2.1 s.2.2.2.1 s.2.2.2.2) (sd := fun s : Int32 × Int32 × Int32 × Int32 × Mm => sd_X11_crossings_32 s.1 s.2.1 s.2.2.1 s.2.2.2.1 s.2.2.2.2) (dd := fun s : Int32 × Int32 × Int32 × Int32 × Mm => (0, 0, 0, s.2.2.2.2)) (f' := fun s : Int32 × Int32 × Int32 × Int32 × Mm => bd_X12_crossings_37 s.1 s.2.1 s.2.2.1 s.2.2.2.1 s.2.2.2.2) (sd' := fun s : Int32 × Int32 × Int32 × Int32 × Mm => sd_X12_crossings_37 s.1 s.2.1 s.2.2.1 s.2.2.2.1 s.2.2.2.2) (dd' := fun s : Int32 × Int32 × Int32 × Int32 × Mm => (0, 0, 0, s.2.2.2.2))
        (I := fun y s s' => y ≤ 10 ∧ ∃ c R μ μ', s = (v, c, nI x, nI y, μ) ∧ s' = (v, c, nI x, nI y, μ') ∧ BkI σ (10 * x + y) c R μ μ') (R := fun r r' => r.1 = v ∧ r'.1 = v ∧ r.2.1 = r'.2.1 ∧ r.2.2.1 = nI x ∧ r'.2.2.1 = nI x ∧ ∃ R, BkI σ (10 * (x + 1)) r.2.1 R r.2.2.2 r'.2.2.2) 10 (by omega) ?_ (s0 := (v, c, nI x, 0, μa)) (s0' := (v, c, nI x, 0, μb)) ⟨Nat.zero_le _, c, R1, μa, μb, rfl, rfl, hI⟩
      · obtain ⟨k1, k2, k3, k3', k4, k5, k5', R2, k6⟩ := k2
        generalize whl (fun s : Int32 × Int32 × Int32 × Int32 × Mm => bd_X11_crossings_32 s.1 s.2.1 s.2.2.1 s.2.2.2.1 s.2.2.2.2) _ FU _ = z at k3 k4 k5 k6 ⊢
        generalize whl (fun s : Int32 × Int32 × Int32 × Int32 × Mm => bd_X12_crossings_37 s.1 s.2.1 s.2.2.1 s.2.2.2.1 s.2.2.2.2) _ FU _ = z' at k3' k4 k5' k6 ⊢
        rw [k3, k3', k5, k5', ← k4, nI_1]
        exact ⟨fun _ => k1, fun _ => k2, .inl ⟨_, _, rfl, rfl, by omega, by omega, z.2.1, R2, z.2.2.2, z'.2.2.2, rfl, rfl, k6⟩⟩
      · rintro y _ _ hy ⟨hy2, c, R1, μa, μb, rfl, rfl, hc, hm, k, hk, rfl, hk0, hl⟩
        dsimp only
        unfold sd_X11_crossings_32 sd_X12_crossings_37 bd_X11_crossings_32 bd_X12_crossings_37
        simp only [gt9 (show y < 2 ^ 31 by omega), nI_1, forall_eq]
        rcases Nat.lt_or_ge 9 y with z9 | z9
        · have : y = 10 := by omega
          subst this
          rw [if_pos z9, if_pos z9]
          exact ⟨fun y => absurd z9 y, fun y => absurd z9 y, .inr ⟨_, _, rfl, rfl, rfl, rfl, rfl, rfl, rfl, R1, hc, hm, k, by omega, rfl, hk0, hl⟩⟩
        · obtain ⟨p1, v1⟩ := C_isBest (μ := μa) (x := x) (y := y) v
          obtain ⟨p2, v2⟩ := C_isBest (μ := μa) (x := y) (y := x) v
          obtain ⟨p3, v3⟩ := M_isRest (μ := μb) y9 z9 v
          obtain ⟨p4, v4⟩ := M_isRest (μ := μb) z9 y9 v
          rw [if_neg (show ¬ 9 < y by omega), if_neg (show ¬ 9 < y by omega), v1, v2, v3, v4]
          obtain ⟨q1, q2⟩ := CSR_add hc (by omega) (nI x).toInt64
          obtain ⟨q3, q4⟩ := CSR_add q2 (by simp; omega) (nI y).toInt64
          obtain ⟨r1, r2⟩ := MSR_add hm (by omega) (nI x).toInt64
          obtain ⟨r3, r4⟩ := MSR_add r2 (by simp; omega) (nI y).toInt64
          refine ⟨fun _ => ⟨p1, fun _ => ⟨p2, fun _ _ => ⟨q1, q3⟩⟩⟩, fun _ => ⟨p3, fun _ => ⟨p4, fun _ _ => ⟨r1, r3⟩⟩⟩, ?_⟩
          cases hb : bsB x y v 10
          · simp only [Bool.false_eq_true, if_false, if_true]
            exact .inl ⟨_, _, rfl, rfl, by omega, by omega, nI k, R1, μa, μb, rfl, rfl, hc, hm, k, by omega, rfl, hk0, hl⟩
          · cases hb2 : bsB y x v 10
            · simp only [Bool.false_eq_true, if_false, if_true, show ¬ ((1 : Int32) = 0) from by decide]
              exact .inl ⟨_, _, rfl, rfl, by omega, by omega, nI k, R1, μa, μb, rfl, rfl, hc, hm, k, by omega, rfl, hk0, hl⟩
            · simp only [if_true, show ¬ ((1 : Int32) = 0) from by decide, if_false]
              by_cases q : k = 0
              · subst q
                have e0 : R1 = [] := hk0 rfl
                subst e0
                simp only [nI_0, if_true]
                exact .inl ⟨_, _, rfl, rfl, by omega, by omega, nI 1, _, _, _, rfl, rfl, q4, r4, 1, by omega, rfl, fun z => absurd z (by omega), by simp⟩
              · have g : ¬ nI k = 0 := nI_ne0 (by omega) (by omega)
                simp only [g, if_false]
                exact .inl ⟨_, _, rfl, rfl, by omega, by omega, nI (k + 1), R1, μa, μb, rfl, rfl, hc, hm, k + 1, by omega, rfl, fun z => absurd z (by omega), hl⟩
end CR
/-! plank -/
def wsP (T : Nat → Nat → Bool) (left last t : Nat) : Bool := decide (t ≠ last) && !T (left - t) t
def wsr (T : Nat → Nat → Bool) (k left last : Nat) : Nat := (ff (wsP T left last) 1 (min k left)).getD 0
theorem ff_rg {P : Nat → Bool} : ∀ {m i n : Nat}, ff P i m = some n → i ≤ n ∧ n < i + m
  | 0, _, _, h => by simp [ff] at h
  | m + 1, i, n, h => by
    unfold ff at h
    by_cases q : P i = true
    · rw [if_pos q] at h; simp at h; omega
    · rw [if_neg q] at h
      have := ff_rg h
      omega
theorem wsr_le (T : Nat → Nat → Bool) (k left last : Nat) : wsr T k left last ≤ k := by
  unfold wsr
  cases h : ff (wsP T left last) 1 (min k left) with
  | none => exact Nat.zero_le _
  | some n => have := ff_rg h; show n ≤ k; omega
theorem ff_congr {P Q : Nat → Bool} : ∀ {m i : Nat}, (∀ t, i ≤ t → t < i + m → P t = Q t) → ff P i m = ff Q i m
  | 0, _, _ => rfl
  | m + 1, i, h => by
    unfold ff
    rw [h i (by omega) (by omega), ff_congr (fun t h1 h2 => h t (by omega) (by omega))]
section PK
variable {σ : ST} {R : List Int64} {μ : Mm} {T : Nat → Nat → Bool} {k left : Nat}
theorem C_ws (hT : ∀ l, l < left → ∀ s, 1 ≤ s → s ≤ k → bt (μ.1 48 l) s = T l s) (hl : left ≤ 60) (hk : k ≤ 9) {last : Nat} (hla : last ≤ 9) : p_X11_winningStride (nI left) (nI k) (nI last) μ ∧ v_X11_winningStride (nI left) (nI k) (nI last) μ = nI (wsr T k left last) := by
  refine lpI (f := fun s : Int32 × Int32 × Int32 × Int32 => bd_X11_winningStride_3 μ s.1 s.2.1 s.2.2.1 s.2.2.2) (sd := fun s : Int32 × Int32 × Int32 × Int32 => sd_X11_winningStride_3 μ s.1 s.2.1 s.2.2.1 s.2.2.2) (dd := fun _ : Int32 × Int32 × Int32 × Int32 => 0)
    (I := fun i s => i ≤ min k left ∧ s = (nI left, nI k, nI last, nI (1 + i)) ∧ ff (wsP T left last) (1 + i) (min k left - i) = ff (wsP T left last) 1 (min k left))
    (R := fun z => z = nI (wsr T k left last)) (min k left) (by omega) ?_ (s0 := (nI left, nI k, nI last, 1)) ⟨Nat.zero_le _, rfl, rfl⟩
  rintro i _ hi ⟨hi2, rfl, hff⟩
  dsimp only
  unfold sd_X11_winningStride_3 bd_X11_winningStride_3
  simp only [nI_ltI (show k < 2 ^ 31 by omega) (show 1 + i < 2 ^ 31 by omega), nI_ltI (show left < 2 ^ 31 by omega) (show 1 + i < 2 ^ 31 by omega), nI_eq (show 1 + i < 2 ^ 31 by omega) (show last < 2 ^ 31 by omega), nI_1]
  rcases Nat.lt_or_ge i (min k left) with z | z
  · rw [if_neg (show ¬ k < 1 + i by omega), if_neg (show ¬ left < 1 + i by omega), nI_sub (show 1 + i ≤ left by omega), nI_clamp (by omega), isIn_b _ (by omega), hT _ (by omega) _ (by omega) (by omega)]
    refine ⟨fun _ _ _ => vp_in_nI (by omega) (by omega), ?_⟩
    rw [show min k left - i = (min k left - (i + 1)) + 1 by omega] at hff
    by_cases q : 1 + i = last
    · rw [if_pos q]
      rw [ff_n (by unfold wsP; rw [decide_eq_false (fun y => y q)]; rfl)] at hff
      exact .inl ⟨_, rfl, z, by omega, rfl, hff⟩
    · rw [if_neg q]
      cases ht : T (left - (1 + i)) (1 + i)
      · rw [ff_y (by unfold wsP; rw [decide_eq_true q, ht]; rfl)] at hff
        refine .inr ⟨_, rfl, ?_⟩
        unfold wsr
        rw [← hff]; rfl
      · rw [ff_n (by unfold wsP; rw [ht, Bool.not_true, Bool.and_false])] at hff
        exact .inl ⟨_, rfl, z, by omega, rfl, hff⟩
  · have e : i = min k left := by omega
    have e2 : wsr T k left last = 0 := by
      unfold wsr
      rw [← hff, show min k left - i = 0 by omega]; rfl
    rw [e2]
    by_cases q : k < 1 + i
    · rw [if_pos q]; exact ⟨fun y => absurd q y, .inr ⟨_, rfl, rfl⟩⟩
    · rw [if_neg q, if_pos (show left < 1 + i by omega)]
      exact ⟨fun _ y => absurd (show left < 1 + i by omega) y, .inr ⟨_, rfl, rfl⟩⟩
theorem M_ws (hT : ∀ l, l < left → ∀ s, 1 ≤ s → s ≤ k → (μ.1 73 (10 * l + s) = 0 ↔ T l s = false)) (hl : left ≤ 60) (hk : k ≤ 9) {last : Nat} (hla : last ≤ 9) (x1 : Int32) : whP (fun s : Int32 × Int32 × Int32 × Int32 × Int32 × Int32 => bd_X12_plank_60 μ s.1 s.2.1 s.2.2.1 s.2.2.2.1 s.2.2.2.2.1 s.2.2.2.2.2) (fun s : Int32 × Int32 × Int32 × Int32 × Int32 × Int32 => sd_X12_plank_60 μ s.1 s.2.1 s.2.2.1 s.2.2.2.1 s.2.2.2.2.1 s.2.2.2.2.2) FU (x1, nI k, nI left, nI last, 0, nI (min k left)) ∧ whl (fun s : Int32 × Int32 × Int32 × Int32 × Int32 × Int32 => bd_X12_plank_60 μ s.1 s.2.1 s.2.2.1 s.2.2.2.1 s.2.2.2.2.1 s.2.2.2.2.2) (fun _ : Int32 × Int32 × Int32 × Int32 × Int32 × Int32 => (0, 0, 0, 0, 0)) FU (x1, nI k, nI left, nI last, 0, nI (min k left)) = (x1, nI k, nI left, nI last, nI (wsr T k left last)) := by
  refine lpI (f := fun s : Int32 × Int32 × Int32 × Int32 × Int32 × Int32 => bd_X12_plank_60 μ s.1 s.2.1 s.2.2.1 s.2.2.2.1 s.2.2.2.2.1 s.2.2.2.2.2) (sd := fun s : Int32 × Int32 × Int32 × Int32 × Int32 × Int32 => sd_X12_plank_60 μ s.1 s.2.1 s.2.2.1 s.2.2.2.1 s.2.2.2.2.1 s.2.2.2.2.2) (dd := fun _ : Int32 × Int32 × Int32 × Int32 × Int32 × Int32 => (0, 0, 0, 0, 0))
    (I := fun i s => i ≤ min k left ∧ s = (x1, nI k, nI left, nI last, nI ((ff (wsP T left last) (min k left - i + 1) i).getD 0), nI (min k left - i)))
    (R := fun z => z = (x1, nI k, nI left, nI last, nI (wsr T k left last))) (min k left) (by omega) ?_ (s0 := (x1, nI k, nI left, nI last, 0, nI (min k left))) ⟨Nat.zero_le _, rfl⟩
  rintro i _ hi ⟨hi2, rfl⟩
  dsimp only
  unfold sd_X12_plank_60 bd_X12_plank_60
  rcases Nat.lt_or_ge i (min k left) with z | z
  · obtain ⟨j, hj⟩ : ∃ j, min k left - i = j + 1 := ⟨min k left - i - 1, by omega⟩
    have e1 : (10 : Int32) * (nI left - nI (j + 1)) + nI (j + 1) = nI (10 * (left - (j + 1)) + (j + 1)) := by
      rw [nI_sub (by omega), show (10 : Int32) = nI 10 from rfl, nI_mul, nI_add]
    rw [hj, if_neg (nI_nle (by omega) (by omega)), e1, nI_m1, nI_clamp (by omega)]
    simp only [nI_eq (show j + 1 < 2 ^ 31 by omega) (show last < 2 ^ 31 by omega), hT (left - (j + 1)) (by omega) (j + 1) (by omega) (by omega)]
    refine ⟨fun _ _ => vp_in_nI (by omega) (by omega), .inl ⟨_, rfl, z, by omega, ?_⟩⟩
    rw [show min k left - (i + 1) = j by omega]
    have e2 : ff (wsP T left last) (j + 1) (i + 1) = if wsP T left last (j + 1) then some (j + 1) else ff (wsP T left last) (j + 1 + 1) i := rfl
    rw [e2]
    unfold wsP
    by_cases q : j + 1 = last
    · rw [if_pos q, decide_eq_false (fun y => y q)]; rfl
    · rw [if_neg q, decide_eq_true q]
      cases T (left - (j + 1)) (j + 1) <;> simp
  · have e : i = min k left := by omega
    rw [show min k left - i = 0 by omega, if_pos (by rw [nI_0]; decide)]
    refine ⟨fun y => absurd (by rw [nI_0]; decide) y, .inr ⟨_, rfl, ?_⟩⟩
    unfold wsr
    rw [e]
theorem call_plank (h : Sim σ R μ) (x y : Int32) : Call (p_X11_plank x y μ) (p_X12_plank x y (e_X11_plank x y μ)) (v_X11_plank x y μ) (v_X12_plank x y (e_X11_plank x y μ)) (e_X12_plank x y (e_X11_plank x y μ)) := by
  have fC := fr_X11_plank x y μ
  have m := h.m1 fC (by decide)
  have fM := fs_X12_plank x y (e_X11_plank x y μ)
  have tc := h.2.2.2.1.fr fC (by decide)
  have tm := m.2.fs fM (by decide)
  suffices key : p_X11_plank x y μ ∧ p_X12_plank x y (e_X11_plank x y μ) ∧ v_X11_plank x y μ = v_X12_plank x y (e_X11_plank x y μ) by
    exact Two2 h fC fM ⟨key.1, key.2.1, key.2.2, R, tc, tm⟩ (by decide) (by decide)
  clear tc tm fM m fC
  generalize e_X11_plank x y μ = μ1
  have t2' : (2 : Int32).toInt = 2 := t2
  unfold p_X11_plank v_X11_plank p_X12_plank v_X12_plank
  simp only [forall_eq]
  generalize upI μ1 49 0 0 = μ0
  rw [ite_in t2 t9, ite_gt t0 t60, in_B s0 s60, in_B s2 s9]
  cases hx : inB x 0 60
  · simp only [Bool.false_eq_true, if_false, if_true]
    refine ⟨fun g1 g2 => ?_, fun z => absurd trivial z, trivial⟩
    exfalso
    simp only [inB, decide_eq_false_iff_not] at hx
    rw [fa_lt, t0] at g1
    rw [fa_lt, t60] at g2
    omega
  · cases hy : inB y 2 9
    · simp only [Bool.false_eq_true, if_false, if_true, show ¬ ((1 : Int32) = 0) from by decide]
      refine ⟨fun _ _ g1 g2 => ?_, fun _ z => absurd trivial z, trivial⟩
      exfalso
      simp only [inB, decide_eq_false_iff_not] at hy
      rw [fa_lt, t2] at g1
      rw [fa_le, t9] at g2
      omega
    · simp only [if_true, show ¬ ((1 : Int32) = 0) from by decide, if_false]
      obtain ⟨n, hn, rfl⟩ := inB_nI (h := 60) hx (by omega)
      obtain ⟨k, hk, rfl⟩ : ∃ k, k ≤ 9 ∧ y = nI k := by
        have := inB_t hy
        obtain ⟨j, hj, rfl⟩ := nI_of (x := y) (by rw [fa_lt, t0]; omega)
        rw [nI_toInt hj] at this
        exact ⟨j, by omega, rfl⟩
      have key := lq2 (f := fun s : Int32 × Int32 × Int32 × Mm => bd_X11_plank_25 s.1 s.2.1 s.2.2.1 s.2.2.2) (sd := fun s : Int32 × Int32 × Int32 × Mm => sd_X11_plank_25 s.1 s.2.1 s.2.2.1 s.2.2.2) (dd := fun s : Int32 × Int32 × Int32 × Mm => (0, 0, s.2.2.2)) (f' := fun s : Int32 × Int32 × Int32 × Mm => bd_X12_plank_35 s.1 s.2.1 s.2.2.1 s.2.2.2) (sd' := fun s : Int32 × Int32 × Int32 × Mm => sd_X12_plank_35 s.1 s.2.1 s.2.2.1 s.2.2.2) (dd' := fun s : Int32 × Int32 × Int32 × Mm => (0, s.2.2.2))
        (I := fun l s s' => l ≤ n + 1 ∧ ∃ μc μm T, s = (nI n, nI k, nI l, μc) ∧ s' = (nI n, nI k, nI l, μm) ∧ (∀ a, a < l → ∀ s, 1 ≤ s → s ≤ k → bt (μc.1 48 a) s = T a s) ∧ (∀ a, a < l → ∀ s, 1 ≤ s → s ≤ k → (μm.1 73 (10 * a + s) = 0 ↔ T a s = false)) ∧ ∀ a, a < l → μm.1 73 (10 * a) = nI (wsr T k a 0))
        (R := fun r r' => r.1 = nI n ∧ r.2.1 = nI k ∧ r'.1 = nI n ∧ ∃ T, (∀ a, a < n + 1 → ∀ s, 1 ≤ s → s ≤ k → bt (r.2.2.1 48 a) s = T a s) ∧ r'.2.1 73 (10 * n) = nI (wsr T k n 0)) (n + 1) (by omega) ?_ (s0 := (nI n, nI k, 0, μ)) (s0' := (nI n, nI k, 0, μ0)) ⟨Nat.zero_le _, μ, μ0, fun _ _ => false, rfl, rfl, fun a ha => absurd ha (by omega), fun a ha => absurd ha (by omega), fun a ha => absurd ha (by omega)⟩
      · obtain ⟨k1, k2, k3, k4, k5, T, k6, k7⟩ := key
        generalize whl (fun s : Int32 × Int32 × Int32 × Mm => bd_X11_plank_25 s.1 s.2.1 s.2.2.1 s.2.2.2) _ FU _ = z at k3 k4 k6 ⊢
        generalize whl (fun s : Int32 × Int32 × Int32 × Mm => bd_X12_plank_35 s.1 s.2.1 s.2.2.1 s.2.2.2) _ FU _ = z' at k5 k7 ⊢
        obtain ⟨q1, q2⟩ := C_ws (μ := z.2.2) (T := T) (k := k) (left := n) (last := 0) (fun l hl => k6 l (by omega)) hn hk (by omega)
        have e10 : (10 : Int32) * nI n = nI (10 * n) := by rw [show (10 : Int32) = nI 10 from rfl, nI_mul]
        rw [k3, k4, k5, e10, nI_clamp (by omega), k7]
        refine ⟨fun _ _ _ _ => ⟨k1, q1⟩, fun _ _ => ⟨k2, vp_in_nI (by omega) (by omega)⟩, q2⟩
      · rintro l _ _ hl ⟨hl2, μc, μm, T, rfl, rfl, hTc, hTm, hT0⟩
        dsimp only
        unfold sd_X11_plank_25 sd_X12_plank_35 bd_X11_plank_25 bd_X12_plank_35
        simp only [nI_ltI (show n < 2 ^ 31 by omega) (show l < 2 ^ 31 by omega), nI_clamp (show l < 2 ^ 31 by omega), forall_eq]
        rcases Nat.lt_or_ge n l with z | z
        · have : l = n + 1 := by omega
          subst this
          rw [if_pos z, if_pos z]
          exact ⟨fun y => absurd z y, fun y => absurd z y, .inr ⟨_, _, rfl, rfl, rfl, rfl, rfl, T, hTc, hT0 n (by omega)⟩⟩
        · rw [if_neg (show ¬ n < l by omega), if_neg (show ¬ n < l by omega)]
          have kc := lpI (f := fun s : Int32 × Int32 × Int32 × Int32 × Mm => bd_X11_plank_40 s.1 s.2.1 s.2.2.1 s.2.2.2.1 s.2.2.2.2) (sd := fun s : Int32 × Int32 × Int32 × Int32 × Mm => sd_X11_plank_40 s.1 s.2.1 s.2.2.1 s.2.2.2.1 s.2.2.2.2) (dd := fun s : Int32 × Int32 × Int32 × Int32 × Mm => (0, 0, 0, s.2.2.2.2))
            (I := fun j s => j ≤ k + 1 ∧ ∃ μ', s = (nI n, nI k, nI l, nI j, μ') ∧ (∀ a, a ≠ l → μ'.1 48 a = μc.1 48 a) ∧ ∀ t, t < 32 → bt (μ'.1 48 l) t = (decide (t < j) && decide (wsr T k l t ≠ 0)))
            (R := fun r => r.1 = nI n ∧ r.2.1 = nI k ∧ r.2.2.1 = nI l ∧ (∀ a, a ≠ l → r.2.2.2.1 48 a = μc.1 48 a) ∧ ∀ t, t ≤ k → bt (r.2.2.2.1 48 l) t = decide (wsr T k l t ≠ 0)) (k + 1) (by omega) ?_ (s0 := (nI n, nI k, nI l, 0, upI μc 48 l 0)) ⟨Nat.zero_le _, _, rfl, fun a ha => by rw [rI, if_neg (fun z => ha z.2)], fun t ht => by rw [rI, if_pos ⟨rfl, rfl⟩, b_0]; simp⟩
          · have km := lpI (f := fun s : Int32 × Int32 × Int32 × Int32 × Mm => bd_X12_plank_43 s.1 s.2.1 s.2.2.1 s.2.2.2.1 s.2.2.2.2) (sd := fun s : Int32 × Int32 × Int32 × Int32 × Mm => sd_X12_plank_43 s.1 s.2.1 s.2.2.1 s.2.2.2.1 s.2.2.2.2) (dd := fun s : Int32 × Int32 × Int32 × Int32 × Mm => (0, 0, 0, s.2.2.2.2))
              (I := fun j s => j ≤ 10 ∧ ∃ μ', s = (nI n, nI k, nI l, nI j, μ') ∧ (∀ a, a < 10 * l → μ'.1 73 a = μm.1 73 a) ∧ ∀ t, t < j → μ'.1 73 (10 * l + t) = nI (wsr T k l t))
              (R := fun r => r.1 = nI n ∧ r.2.1 = nI k ∧ r.2.2.1 = nI l ∧ (∀ a, a < 10 * l → r.2.2.2.1 73 a = μm.1 73 a) ∧ ∀ t, t < 10 → r.2.2.2.1 73 (10 * l + t) = nI (wsr T k l t)) 10 (by omega) ?_ (s0 := (nI n, nI k, nI l, 0, μm)) ⟨Nat.zero_le _, _, rfl, fun _ _ => rfl, fun t ht => absurd ht (by omega)⟩
            · obtain ⟨c1, c2, c3, c4, c5, c6⟩ := kc
              obtain ⟨d1, d2, d3, d4, d5, d6⟩ := km
              generalize whl (fun s : Int32 × Int32 × Int32 × Int32 × Mm => bd_X11_plank_40 s.1 s.2.1 s.2.2.1 s.2.2.2.1 s.2.2.2.2) _ FU _ = y at c2 c3 c4 c5 c6 ⊢
              generalize whl (fun s : Int32 × Int32 × Int32 × Int32 × Mm => bd_X12_plank_43 s.1 s.2.1 s.2.2.1 s.2.2.2.1 s.2.2.2.2) _ FU _ = y' at d2 d3 d4 d5 d6 ⊢
              rw [c2, c3, c4, d2, d3, d4, nI_1]
              refine ⟨fun _ => ⟨vp_in_nI (by omega) (by omega), c1⟩, fun _ => d1, .inl ⟨_, _, rfl, rfl, by omega, by omega, y.2.2.2, y'.2.2.2, (fun a s => if a = l then decide (wsr T k l s ≠ 0) else T a s), rfl, rfl, fun a ha s hs1 hs2 => ?_, fun a ha s hs1 hs2 => ?_, fun a ha => ?_⟩⟩
              · by_cases e : a = l
                · subst e; dsimp only; rw [if_pos rfl]; exact c6 s hs2
                · dsimp only; rw [if_neg e, c5 a e]; exact hTc a (by omega) s hs1 hs2
              · by_cases e : a = l
                · subst e
                  dsimp only
                  rw [if_pos rfl, d6 s (by omega)]
                  have := wsr_le T k a s
                  rw [show (0 : Int32) = nI 0 from rfl, nI_eq (by omega) (by omega)]
                  simp
                · dsimp only; rw [if_neg e, d5 _ (by omega)]; exact hTm a (by omega) s hs1 hs2
              · have hw : ∀ b, b ≤ l → wsr (fun a s => if a = l then decide (wsr T k l s ≠ 0) else T a s) k b 0 = wsr T k b 0 := by
                  intro b hb
                  unfold wsr
                  congr 1
                  refine ff_congr (fun t h1 h2 => ?_)
                  unfold wsP
                  dsimp only
                  rw [if_neg (show ¬ b - t = l by omega)]
                rw [hw a (by omega)]
                by_cases e : a = l
                · subst e; exact d6 0 (by omega)
                · rw [d5 _ (by omega)]; exact hT0 a (by omega)
            · rintro j _ hj ⟨hj2, μ', rfl, g1, g2⟩
              dsimp only
              unfold sd_X12_plank_43 bd_X12_plank_43
              have emin : (if nI l < nI k then nI l else nI k) = nI (min k l) := by
                simp only [nI_ltI (show l < 2 ^ 31 by omega) (show k < 2 ^ 31 by omega)]
                by_cases q : l < k
                · rw [if_pos q, Nat.min_eq_right (by omega)]
                · rw [if_neg q, Nat.min_eq_left (by omega)]
              rw [emin, show (10 : Int32) = nI 10 from rfl]
              simp only [nI_leI (show 10 < 2 ^ 31 by omega) (show j < 2 ^ 31 by omega)]
              rcases Nat.lt_or_ge j 10 with x | x
              · obtain ⟨q1, q2⟩ := M_ws (μ := μ') (T := T) (k := k) (left := l) (last := j) (fun a ha s hs1 hs2 => by rw [g1 _ (by omega)]; exact hTm a ha s hs1 hs2) (by omega) hk (by omega) (nI n)
                rw [if_neg (show ¬ 10 ≤ j by omega), q2]
                simp only [forall_eq]
                rw [nI_mul, nI_add, nI_clamp (by omega), nI_1]
                refine ⟨fun _ => ⟨q1, vp_in_nI (by omega) (by omega)⟩, .inl ⟨_, rfl, x, by omega, _, rfl, fun a ha => ?_, fun t ht => ?_⟩⟩
                · rw [rI, if_neg (by omega)]; exact g1 a ha
                · rw [rI]
                  by_cases e : t = j
                  · subst e; rw [if_pos ⟨rfl, rfl⟩]
                  · rw [if_neg (by omega)]; exact g2 t (by omega)
              · have : j = 10 := by omega
                subst this
                rw [if_pos (by omega)]
                exact ⟨fun y => absurd (Nat.le_refl _) y, .inr ⟨_, rfl, rfl, rfl, rfl, g1, g2⟩⟩
          · rintro j _ hj ⟨hj2, μ', rfl, g1, g2⟩
            dsimp only
            unfold sd_X11_plank_40 bd_X11_plank_40
            simp only [nI_ltI (show k < 2 ^ 31 by omega) (show j < 2 ^ 31 by omega), nI_clamp (show l < 2 ^ 31 by omega), nI_1]
            rcases Nat.lt_or_ge k j with x | x
            · have : j = k + 1 := by omega
              subst this
              rw [if_pos x]
              refine ⟨fun y => absurd x y, .inr ⟨_, rfl, rfl, rfl, rfl, g1, fun t ht => ?_⟩⟩
              rw [g2 t (by omega), decide_eq_true (show t < k + 1 by omega), Bool.true_and]
            · obtain ⟨q1, q2⟩ := C_ws (μ := μ') (T := T) (k := k) (left := l) (last := j) (fun a ha s hs1 hs2 => by rw [g1 a (by omega)]; exact hTc a ha s hs1 hs2) (by omega) hk (by omega)
              rw [if_neg (show ¬ k < j by omega), q2]
              have hw := wsr_le T k l j
              refine ⟨fun _ => ⟨q1, fun _ => ⟨vp_in_nI (by omega) (by omega), vp_in_nI (by omega) (by omega)⟩⟩, ?_⟩
              rw [show (0 : Int32) = nI 0 from rfl]
              simp only [nI_leI (show wsr T k l j < 2 ^ 31 by omega) (show 0 < 2 ^ 31 by omega)]
              by_cases q : wsr T k l j ≤ 0
              · rw [if_pos q]
                refine .inl ⟨_, rfl, by omega, by omega, μ', rfl, g1, fun t ht => ?_⟩
                rw [g2 t ht]
                by_cases e : t = j
                · subst e
                  rw [decide_eq_false (show ¬ t < t by omega), decide_eq_false (show ¬ wsr T k l t ≠ 0 by omega)]; simp
                · by_cases e2 : t < j
                  · rw [decide_eq_true e2, decide_eq_true (show t < j + 1 by omega)]
                  · rw [decide_eq_false e2, decide_eq_false (show ¬ t < j + 1 by omega)]
              · rw [if_neg q]
                refine .inl ⟨_, rfl, by omega, by omega, _, rfl, fun a ha => by rw [rI, if_neg (fun z => ha z.2)]; exact g1 a ha, fun t ht => ?_⟩
                rw [rI, if_pos ⟨rfl, rfl⟩, b_or, g2 t ht, bt_one j (by omega) t ht]
                by_cases e : t = j
                · subst e
                  rw [decide_eq_true (show t < t + 1 by omega), decide_eq_true (show wsr T k l t ≠ 0 by omega)]; simp
                · by_cases e2 : t < j
                  · rw [decide_eq_true e2, decide_eq_true (show t < j + 1 by omega), decide_eq_false e]; simp
                  · rw [decide_eq_false e2, decide_eq_false (show ¬ t < j + 1 by omega), decide_eq_false e]; simp
end PK

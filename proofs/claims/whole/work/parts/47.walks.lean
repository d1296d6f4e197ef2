/-! walks: the whole table -/
def Rows (F : FL) (x : Int32) (a : Nat) (μ : Mm) : Prop := ∀ s, s ≤ 126 → wOK (rmN F x) (ldN F) a s (μ.1 66 (127 * a + s))
section WN
variable {σ : ST} {R : List Int64} {μ : Mm}
theorem M_room (ok : OK σ) (hm : MSR σ R μ) {x : Int32} {i : Nat} (hi : i < f_n (s_F σ)) : p_X12_room x (nI i) ∧ v_X12_room x (nI i) μ = nI (rmN (s_F σ) x i) := by
  have hn := ok.g.1
  unfold p_X12_room v_X12_room
  rw [has_b _ (by omega), cl7 (by omega), hm.1.F.p (by omega)]
  simp only [one0]
  refine ⟨fun _ => in7 (by omega), ?_⟩
  by_cases q : bt x i = true
  · rw [if_neg (fun y => y q), rmN_I ok.g hi q]
  · rw [if_pos q]
    unfold rmN
    rw [if_neg (fun y => q y.2)]; rfl
theorem M_ld (ok : OK σ) (hm : MSR σ R μ) {i : Nat} (hi : i < f_n (s_F σ)) : p_X12_load 52 (nI i) ∧ v_X12_load 52 (nI i) μ = nI (ldN (s_F σ) i) := by
  obtain ⟨a1, a2⟩ := M_load hm.1.F hi
  exact ⟨a1, by rw [a2, (ldN_I ok.g hi).1]⟩
theorem M_w51 (ok : OK σ) (hm : MSR σ R μ) {x : Int32} {i : Nat} (hi : i < f_n (s_F σ)) (hw : ∀ a, i < a → a ≤ f_n (s_F σ) → Rows (s_F σ) x a μ) : whP (fun s : Int32 × Int32 × Int32 × Mm => bd_X12_laysWon_51 s.1 s.2.1 s.2.2.1 s.2.2.2) (fun s : Int32 × Int32 × Int32 × Mm => sd_X12_laysWon_51 s.1 s.2.1 s.2.2.1 s.2.2.2) FU (x, nI i, 0, μ) ∧ (fun z : Int32 × Int32 × Mm => z.1 = x ∧ z.2.1 = nI i ∧ MSR σ R z.2.2 ∧ ∀ a, i ≤ a → a ≤ f_n (s_F σ) → Rows (s_F σ) x a z.2.2) (whl (fun s : Int32 × Int32 × Int32 × Mm => bd_X12_laysWon_51 s.1 s.2.1 s.2.2.1 s.2.2.2) (fun s : Int32 × Int32 × Int32 × Mm => (0, 0, s.2.2.2)) FU (x, nI i, 0, μ)) := by
  have hn := ok.g.1
  refine lpI (f := fun s : Int32 × Int32 × Int32 × Mm => bd_X12_laysWon_51 s.1 s.2.1 s.2.2.1 s.2.2.2) (sd := fun s : Int32 × Int32 × Int32 × Mm => sd_X12_laysWon_51 s.1 s.2.1 s.2.2.1 s.2.2.2) (dd := fun s : Int32 × Int32 × Int32 × Mm => (0, 0, s.2.2.2)) (I := fun t z => t ≤ 127 ∧ ∃ μ', z = (x, nI i, nI t, μ') ∧ MSR σ R μ' ∧ (∀ a, i < a → a ≤ f_n (s_F σ) → Rows (s_F σ) x a μ') ∧ ∀ s, s < t → wOK (rmN (s_F σ) x) (ldN (s_F σ)) i s (μ'.1 66 (127 * i + s)))
    (R := fun z : Int32 × Int32 × Mm => z.1 = x ∧ z.2.1 = nI i ∧ MSR σ R z.2.2 ∧ ∀ a, i ≤ a → a ≤ f_n (s_F σ) → Rows (s_F σ) x a z.2.2) 127 (by omega) ?_ (s0 := (x, nI i, 0, μ)) ⟨by omega, μ, rfl, hm, hw, fun s h => absurd h (by omega)⟩
  rintro t _ ht ⟨ht2, μ', rfl, hm', hw', hg⟩
  dsimp only
  unfold sd_X12_laysWon_51 bd_X12_laysWon_51
  have g : ((126 : Int32) < nI t) ↔ 126 < t := nI_ltI (a := 126) (by omega) (by omega)
  simp only [g, forall_eq]
  rcases Nat.lt_or_ge 126 t with z | z
  · rw [if_pos z]
    refine ⟨fun y => absurd z y, .inr ⟨_, rfl, rfl, rfl, hm', fun a h1 h2 => ?_⟩⟩
    by_cases e : a = i
    · subst e; exact fun s hs => hg s (by omega)
    · exact hw' a (by omega) h2
  · obtain ⟨w1, w2, w3, w4, w5⟩ := M_w65 (x := x) (i := i) (s := t) (by omega) (by omega) (M_room ok hm' hi) (M_ld ok hm' hi) (rmN_le ok.g i) (ldN_le ok.g i) (ldN_I ok.g hi).2.2 (hw' (i + 1) (by omega) (by omega))
    rw [if_neg (show ¬ 126 < t by omega)]
    generalize whl (fun s : Int32 × Int32 × Int32 × Int32 × Int32 => bd_X12_laysWon_65 μ' s.1 s.2.1 s.2.2.1 s.2.2.2.1 s.2.2.2.2) _ FU _ = r at w2 w3 w4 w5 ⊢
    rw [w2, w3, w4, slot_N, nI_clamp (by omega), nI_1]
    have f : Fs [66] μ' (upI μ' 66 (127 * i + t) r.2.2.2) := Fs.rfl.up (by simp)
    refine ⟨fun _ => ⟨w1, vp_in_nI (by omega) (by omega)⟩, .inl ⟨_, rfl, by omega, by omega, _, rfl, ⟨hm'.1.fs f (by decide), hm'.2.fs f (by decide)⟩, fun a h1 h2 s hs => ?_, fun s hs => ?_⟩⟩
    · rw [rI, if_neg (by omega)]; exact hw' a h1 h2 s hs
    · rw [rI]
      by_cases e : s = t
      · subst e; rw [if_pos ⟨rfl, rfl⟩]; exact w5
      · rw [if_neg (by omega)]; exact hg s (by omega)
theorem M_laysWon (ok : OK σ) (hm : MSR σ R μ) (x : Int32) : p_X12_laysWon x μ ∧ ∀ a, a ≤ f_n (s_F σ) → Rows (s_F σ) x a (e_X12_laysWon x μ) := by
  have hn := ok.g.1
  have hend : ∀ h, Rs (rmN (s_F σ) x) (ldN (s_F σ)) h (f_n (s_F σ)) = 0 := fun h => nS_zero (fun j _ => by
    by_cases q : f_n (s_F σ) ≤ j ∧ h ≤ ldN (s_F σ) j
    · rw [if_pos q]; unfold rmN; rw [if_neg (by omega)]
    · rw [if_neg q])
  have hMe : Ms (rmN (s_F σ) x) (ldN (s_F σ)) (f_n (s_F σ)) 0 = 0 := nS_zero (fun j _ => Nat.zero_min _)
  unfold p_X12_laysWon e_X12_laysWon
  simp only [forall_eq]
  have tb : (-1000000 : Int32).toInt = -1000000 := by decide +kernel
  have key1 := lpI (f := fun s : Int32 × Int32 × Mm => bd_X12_laysWon_2 s.1 s.2.1 s.2.2) (sd := fun s : Int32 × Int32 × Mm => sd_X12_laysWon_2 s.1 s.2.1 s.2.2) (dd := fun s : Int32 × Int32 × Mm => (0, s.2.2)) (I := fun t z => t ≤ 127 ∧ ∃ μ', z = (x, nI t, μ') ∧ MSR σ R μ' ∧ ∀ s, s < t → μ'.1 66 (127 * f_n (s_F σ) + s) = if s = 0 then 0 else -1000000)
    (R := fun z : Int32 × Mm => z.1 = x ∧ MSR σ R z.2 ∧ ∀ s, s ≤ 126 → z.2.1 66 (127 * f_n (s_F σ) + s) = if s = 0 then 0 else -1000000) 127 (by omega) ?_ (s0 := (x, 0, μ)) ⟨by omega, μ, rfl, hm, fun s h => absurd h (by omega)⟩
  · obtain ⟨k1, k2, k3, k4⟩ := key1
    generalize whl (fun s : Int32 × Int32 × Mm => bd_X12_laysWon_2 s.1 s.2.1 s.2.2) _ FU _ = z at k2 k3 k4 ⊢
    rw [k2, k3.1.F.sz]
    generalize z.2 = μ2 at k3 k4 ⊢
    have hb : Rows (s_F σ) x (f_n (s_F σ)) μ2 := fun s hs => by
      rw [k4 s hs]
      unfold wOK
      rw [hend]
      by_cases q : s = 0
      · subst q
        rw [if_pos rfl, hMe, t0]
        exact ⟨by omega, fun _ => rfl, fun h => absurd h (by omega)⟩
      · rw [if_neg q, tb]
        exact ⟨by omega, fun h => absurd h (by omega), fun _ => by omega⟩
    have key := lpI (f := fun s : Int32 × Int32 × Mm => bd_X12_laysWon_45 s.1 s.2.1 s.2.2) (sd := fun s : Int32 × Int32 × Mm => sd_X12_laysWon_45 s.1 s.2.1 s.2.2) (dd := fun s : Int32 × Int32 × Mm => s.2.2) (I := fun t z => t ≤ f_n (s_F σ) ∧ ∃ μ', z = (x, nI (f_n (s_F σ) - t) - 1, μ') ∧ MSR σ R μ' ∧ ∀ a, f_n (s_F σ) - t ≤ a → a ≤ f_n (s_F σ) → Rows (s_F σ) x a μ')
      (R := fun z : Mm => ∀ a, a ≤ f_n (s_F σ) → Rows (s_F σ) x a z) (f_n (s_F σ)) (by omega) ?_ (s0 := (x, nI (f_n (s_F σ)) - 1, μ2)) ⟨by omega, μ2, rfl, k3, fun a h1 h2 => by
        rw [show a = f_n (s_F σ) by omega]; exact hb⟩
    · exact ⟨⟨k1, key.1⟩, key.2⟩
    · rintro t _ ht ⟨ht2, μ', rfl, hm', hw'⟩
      dsimp only
      unfold sd_X12_laysWon_45 bd_X12_laysWon_45
      rcases Nat.lt_or_ge t (f_n (s_F σ)) with z | z
      · obtain ⟨i, hi⟩ : ∃ i, f_n (s_F σ) - t = i + 1 := ⟨f_n (s_F σ) - t - 1, by omega⟩
        have e1 : nI (i + 1) - 1 = nI i := by rw [show (1 : Int32) = nI 1 from rfl, nI_sub (by omega)]; rfl
        rw [hi, e1]
        obtain ⟨w1, w2, w3, w4, w5⟩ := M_w51 ok hm' (x := x) (i := i) (by omega) (fun a h1 h2 => hw' a (by omega) h2)
        have g0 : ¬ (nI i < 0) := nI_pos (by omega)
        rw [if_neg g0]
        generalize whl (fun s : Int32 × Int32 × Int32 × Mm => bd_X12_laysWon_51 s.1 s.2.1 s.2.2.1 s.2.2.2) _ FU _ = r at w2 w3 w4 w5 ⊢
        dsimp only
        rw [w2, w3]
        refine ⟨fun _ => w1, .inl ⟨_, rfl, z, z, r.2.2, ?_, w4, fun a h1 h2 => w5 a (by omega) h2⟩⟩
        rw [show f_n (s_F σ) - (t + 1) = i by omega, Int32.sub_eq_add_neg]
      · have e0 : f_n (s_F σ) - t = 0 := by omega
        have g0 : nI 0 - 1 < 0 := by decide
        rw [e0, if_pos g0]
        exact ⟨fun y => absurd g0 y, .inr ⟨_, rfl, fun a h => hw' a (by omega) h⟩⟩
  · rintro t _ ht ⟨ht2, μ', rfl, hm', hg⟩
    dsimp only
    unfold sd_X12_laysWon_2 bd_X12_laysWon_2
    have g : ((126 : Int32) < nI t) ↔ 126 < t := nI_ltI (a := 126) (by omega) (by omega)
    have g0 : (nI t = 0) ↔ t = 0 := nI_eq (b := 0) (by omega) (by omega)
    rw [hm'.1.F.sz, slot_N, nI_clamp (by omega)]
    simp only [g, g0, nI_1]
    rcases Nat.lt_or_ge 126 t with z | z
    · rw [if_pos z]
      exact ⟨fun y => absurd z y, .inr ⟨_, rfl, rfl, hm', fun s hs => hg s (by omega)⟩⟩
    · rw [if_neg (show ¬ 126 < t by omega)]
      generalize hvv : (if t = 0 then (0 : Int32) else -1000000) = vv
      have f : Fs [66] μ' (upI μ' 66 (127 * f_n (s_F σ) + t) vv) := Fs.rfl.up (by simp)
      refine ⟨fun _ => vp_in_nI (by omega) (by omega), .inl ⟨_, rfl, by omega, by omega, _, rfl, ⟨hm'.1.fs f (by decide), hm'.2.fs f (by decide)⟩, fun s hs => ?_⟩⟩
      rw [rI]
      by_cases e : s = t
      · subst e; rw [if_pos ⟨rfl, rfl⟩, hvv]
      · rw [if_neg (by omega)]; exact hg s (by omega)
end WN

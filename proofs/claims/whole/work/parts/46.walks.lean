/-! walks: the model's table -/
def wOK (rm ld : Nat → Nat) (i s : Nat) (v : Int32) : Prop := -1000000 ≤ v.toInt ∧ (s ≤ Rs rm ld 1 i → v.toInt = Ms rm ld i s) ∧ (Rs rm ld 1 i < s → v.toInt ≤ -1000000 + 400 * (7 - (i : Int)))
theorem slot_N (a b : Nat) : v_X12_slot (nI a) (nI b) = nI (127 * a + b) := by
  unfold v_X12_slot
  rw [show (127 : Int32) = nI 127 from rfl, nI_mul, nI_add]
section WM
variable {σ : ST} {R : List Int64} {μ : Mm} {rm ld : Nat → Nat}
theorem wOK_b {i s : Nat} {v : Int32} (h : wOK rm ld i s v) (hi : i ≤ 7) (hs : s ≤ 126) : -1000000 ≤ v.toInt ∧ v.toInt ≤ 2268 := by
  obtain ⟨h1, h2, h3⟩ := h
  refine ⟨h1, ?_⟩
  have hM := Ms_le rm ld i s
  rcases Nat.lt_or_ge (Rs rm ld 1 i) s with z | z
  · have := h3 z; omega
  · have := h2 z; omega
theorem M_w65 {x : Int32} {i s : Nat} (hi : i < 7) (hs : s ≤ 126) (hr : p_X12_room x (nI i) ∧ v_X12_room x (nI i) μ = nI (rm i)) (hl : p_X12_load 52 (nI i) ∧ v_X12_load 52 (nI i) μ = nI (ld i)) (hrm : rm i ≤ 18) (hld : ld i ≤ 18) (hl1 : 1 ≤ ld i) (hw : ∀ s, s ≤ 126 → wOK rm ld (i + 1) s (μ.1 66 (127 * (i + 1) + s))) : whP (fun s : Int32 × Int32 × Int32 × Int32 × Int32 => bd_X12_laysWon_65 μ s.1 s.2.1 s.2.2.1 s.2.2.2.1 s.2.2.2.2) (fun s : Int32 × Int32 × Int32 × Int32 × Int32 => sd_X12_laysWon_65 μ s.1 s.2.1 s.2.2.1 s.2.2.2.1 s.2.2.2.2) FU (x, nI i, nI s, -1000000, 0) ∧ (fun z : Int32 × Int32 × Int32 × Int32 => z.1 = x ∧ z.2.1 = nI i ∧ z.2.2.1 = nI s ∧ wOK rm ld i s z.2.2.2) (whl (fun s : Int32 × Int32 × Int32 × Int32 × Int32 => bd_X12_laysWon_65 μ s.1 s.2.1 s.2.2.1 s.2.2.2.1 s.2.2.2.2) (fun _ : Int32 × Int32 × Int32 × Int32 × Int32 => (0, 0, 0, 0)) FU (x, nI i, nI s, -1000000, 0)) := by
  have ef : (if nI (rm i) < nI s then nI (rm i) else nI s) = nI (min (rm i) s) := by
    simp only [nI_ltI (show rm i < 2 ^ 31 by omega) (show s < 2 ^ 31 by omega)]
    by_cases y : rm i < s
    · rw [if_pos y]; congr 1; omega
    · rw [if_neg y]; congr 1; omega
  have tb : (-1000000 : Int32).toInt = -1000000 := by decide +kernel
  have tm : ∀ y, y ≤ s → y ≤ rm i → (nI y * nI (ld i) + μ.1 66 (127 * (i + 1) + (s - y))).toInt = ((y * ld i : Nat) : Int) + (μ.1 66 (127 * (i + 1) + (s - y))).toInt ∧ y * ld i ≤ 324 := fun y hy hy2 => by
    have hb := wOK_b (hw (s - y) (by omega)) (by omega) (by omega)
    have hmul : y * ld i ≤ 18 * 18 := Nat.mul_le_mul (by omega) hld
    rw [nI_mul, toInt_addS (by rw [nI_toInt (by omega)]; omega), nI_toInt (by omega)]
    exact ⟨rfl, by omega⟩
  refine lpI (f := fun s : Int32 × Int32 × Int32 × Int32 × Int32 => bd_X12_laysWon_65 μ s.1 s.2.1 s.2.2.1 s.2.2.2.1 s.2.2.2.2) (I := fun t z => t ≤ min (rm i) s + 1 ∧ ∃ v : Int32, z = (x, nI i, nI s, v, nI t) ∧ -1000000 ≤ v.toInt ∧ (∀ y, y < t → (nI y * nI (ld i) + μ.1 66 (127 * (i + 1) + (s - y))).toInt ≤ v.toInt) ∧ (v.toInt = -1000000 ∨ ∃ y, y < t ∧ v.toInt = (nI y * nI (ld i) + μ.1 66 (127 * (i + 1) + (s - y))).toInt))
    (R := fun z : Int32 × Int32 × Int32 × Int32 => z.1 = x ∧ z.2.1 = nI i ∧ z.2.2.1 = nI s ∧ wOK rm ld i s z.2.2.2) (min (rm i) s + 1) (by omega) ?_ ⟨by omega, -1000000, rfl, by omega, fun y h => absurd h (by omega), .inl tb⟩
  rintro t _ ht ⟨ht2, v, rfl, hv, hle, hex⟩
  dsimp only
  unfold sd_X12_laysWon_65 bd_X12_laysWon_65
  rw [hr.2, ef, hl.2]
  simp only [nI_ltI (show min (rm i) s < 2 ^ 31 by omega) (show t < 2 ^ 31 by omega)]
  rcases Nat.lt_or_ge (min (rm i) s) t with z | z
  · have et : t = min (rm i) s + 1 := by omega
    rw [if_pos z]
    refine ⟨⟨hr.1, fun y => absurd z y⟩, .inr ⟨_, rfl, rfl, rfl, rfl, hv, fun h1 => ?_, fun h1 => ?_⟩⟩
    · show v.toInt = _
      obtain ⟨b1, b2, b3⟩ := bsx_ok rm ld (s := s) hi hl1 h1
      have hb := hle (bsx rm ld i s) (by omega)
      rw [(tm _ b2 b1).1, ((hw (s - bsx rm ld i s) (by omega)).2.1 b3)] at hb
      have hbest := Ms_best rm ld (s := s) hi hld
      have hge : (Ms rm ld i s : Int) ≤ v.toInt := by omega
      rcases hex with e | ⟨y, hy, e⟩
      · omega
      · rw [(tm y (by omega) (by omega)).1] at e
        have h324 := (tm y (by omega) (by omega)).2
        rcases Nat.lt_or_ge (Rs rm ld 1 (i + 1)) (s - y) with q | q
        · have := (hw (s - y) (by omega)).2.2 q
          omega
        · have h2 := (hw (s - y) (by omega)).2.1 q
          have h3 := Ms_upper rm ld (i := i) (s := s) (x := y) hi hld (by omega) (by omega)
          omega
    · show v.toInt ≤ _
      rcases hex with e | ⟨y, hy, e⟩
      · omega
      · rw [(tm y (by omega) (by omega)).1] at e
        have h324 := (tm y (by omega) (by omega)).2
        have hst := Rs_step rm ld (h := 1) hi
        rw [if_pos hl1] at hst
        have := (hw (s - y) (by omega)).2.2 (by omega)
        omega
  · rw [if_neg (show ¬ min (rm i) s < t by omega), nI_1, nI_sub (by omega), slot_N, nI_clamp (by omega), nI_1]
    refine ⟨⟨hr.1, fun _ => ⟨hl.1, vp_in_nI (by omega) (by omega)⟩⟩, .inl ⟨_, rfl, by omega, by omega, _, rfl, ?_, fun y hy => ?_, ?_⟩⟩
    · by_cases q : v < nI t * nI (ld i) + μ.1 66 (127 * (i + 1) + (s - t))
      · rw [if_pos q]; rw [fa_lt] at q; omega
      · rw [if_neg q]; exact hv
    · by_cases q : v < nI t * nI (ld i) + μ.1 66 (127 * (i + 1) + (s - t))
      · rw [if_pos q]
        rw [fa_lt] at q
        by_cases e : y = t
        · subst e; exact Int.le_refl _
        · have := hle y (by omega); omega
      · rw [if_neg q]
        rw [fa_lt] at q
        by_cases e : y = t
        · subst e; omega
        · exact hle y (by omega)
    · by_cases q : v < nI t * nI (ld i) + μ.1 66 (127 * (i + 1) + (s - t))
      · rw [if_pos q]; exact .inr ⟨t, by omega, rfl⟩
      · rw [if_neg q]
        rcases hex with e | ⟨y, hy, e⟩
        · exact .inl e
        · exact .inr ⟨y, by omega, e⟩
end WM

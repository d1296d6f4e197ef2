/-! the class takes a rule's signs -/
def OuC (o : List Nat) (μ : Mm) : Prop := μ.1 20 1 = nI o.length ∧ ∀ i, i < o.length → μ.1 21 i = tokC (o.getD i 0)
def PiC (k : List Nat) (μ : Mm) : Prop := μ.1 23 1 = nI k.length ∧ ∀ i, i < k.length → μ.1 24 i = nI (k.reverse.getD i 0)
def FgC (w : Bool) (d : Nat) (c : Nat → Bool) (g : Nat) (μ : Mm) : Prop := μ.1 20 5 = (if w = true then 1 else 0) ∧ μ.1 20 6 = nI d ∧ (∀ i, i ≤ 4 → bt (μ.1 20 7) i = c i) ∧ μ.1 20 8 = nI g
def CrC (o : List Nat) (μ : Mm) : Prop := μ.1 20 2 = if 1004 ∈ o then 1 else 0
def McC (o k : List Nat) (w : Bool) (d : Nat) (c : Nat → Bool) (g : Nat) (μ : Mm) : Prop := OuC o μ ∧ CrC o μ ∧ PiC k μ ∧ FgC w d c g μ
theorem tok_c : ∀ c, c < 256 → 1 ≤ rkO c → -nI c = tokC (cdO c) := by decide +kernel
theorem rk_c : ∀ c, c < 256 → v_X5_rankOf (nI c) = nI (rkO c) := by decide +kernel
section YC
variable {o k : List Nat} {w : Bool} {d g : Nat} {c : Nat → Bool} {μ : Mm}
theorem C_emit {t : Nat} {x : Int32} (h : OuC o μ) (hl : o.length ≤ 40) (hx : x = tokC t) : p_X5_emit 20 x μ ∧ OuC (o ++ [t]) (e_X5_emit 20 x μ) ∧ (∀ j, j ≠ 1 → (e_X5_emit 20 x μ).1 20 j = μ.1 20 j) ∧ Fr [20, 21] μ (e_X5_emit 20 x μ) := by
  obtain ⟨h1, h2⟩ := h
  have g1 : ¬ ((Int32.ofNat 41) ≤ nI o.length) := lt41 _ hl
  have e1 : e_X5_emit 20 x μ = upI (upI μ 21 o.length x) 20 1 (nI (o.length + 1)) := by
    unfold e_X5_emit
    dsimp only
    rw [h1, if_neg g1, nI_clamp (by omega), rI, if_neg (by omega), h1, nI_1]
  refine ⟨fun _ => ?_, ?_, fun j hj => ?_, ?_⟩
  · rw [h1]; exact vp_in_nI (by omega) (by omega)
  · rw [e1]
    refine ⟨?_, fun i hi => ?_⟩
    · rw [rI, if_pos ⟨rfl, rfl⟩, List.length_append]; rfl
    · rw [List.length_append] at hi
      have hi' : i < o.length + 1 := hi
      rw [rI, if_neg (by omega), rI, getD_snoc hi']
      by_cases e : i = o.length
      · rw [if_pos ⟨rfl, e⟩, if_pos e, hx]
      · rw [if_neg (fun y => e y.2), if_neg e]; exact h2 i (by omega)
  · rw [e1, rI, if_neg (by omega), rI, if_neg (by omega)]
  · rw [e1]; exact (Fr.rfl.up (by simp)).up (by simp)
theorem C_push {x : Nat} (h : PiC k μ) (hl : k.length ≤ 40) : p_X4_push (20 + 3) (nI x) μ ∧ PiC (x :: k) (e_X4_push (20 + 3) (nI x) μ) ∧ Fr [23, 24] μ (e_X4_push (20 + 3) (nI x) μ) := by
  obtain ⟨h1, h2⟩ := h
  have h1' : μ.1 (20 + 3) 1 = nI k.length := h1
  have g1 : ¬ ((Int32.ofNat 41) ≤ nI k.length) := lt41 _ hl
  have e1 : e_X4_push (20 + 3) (nI x) μ = upI (upI μ 24 k.length (nI x)) 23 1 (nI (k.length + 1)) := by
    unfold e_X4_push
    dsimp only
    rw [h1', if_neg g1, nI_clamp (by omega), rI, if_neg (by omega), h1', nI_1]
  refine ⟨fun _ => ?_, ?_, ?_⟩
  · rw [h1']; exact vp_in_nI (by omega) (by omega)
  · rw [e1]
    refine ⟨?_, fun i hi => ?_⟩
    · rw [rI, if_pos ⟨rfl, rfl⟩]; rfl
    · have hi' : i < k.reverse.length + 1 := by rw [List.length_reverse]; exact hi
      rw [rI, if_neg (by omega), rI, List.reverse_cons, getD_snoc hi', List.length_reverse]
      by_cases e : i = k.length
      · rw [if_pos ⟨rfl, e⟩, if_pos e]
      · rw [if_neg (fun y => e y.2), if_neg e]
        have hi2 : i < k.length + 1 := hi
        exact h2 i (by omega)
  · rw [e1]; exact (Fr.rfl.up (by simp)).up (by simp)
theorem C_top (h : PiC k μ) (hl : k.length ≤ 40) : p_X4_top (20 + 3) μ ∧ v_X4_top (20 + 3) μ = nI (k.headD 0) := by
  obtain ⟨h1, h2⟩ := h
  have h1' : μ.1 (20 + 3) 1 = nI k.length := h1
  unfold p_X4_top v_X4_top
  rw [h1']
  cases k with
  | nil =>
    have g0 : nI ([] : List Nat).length ≤ 0 := by decide
    rw [if_pos g0]
    exact ⟨fun y => absurd g0 y, rfl⟩
  | cons x k =>
    have g0 : ¬ (nI (x :: k).length ≤ 0) := by rw [fa_le, t0, nI_toInt (by omega)]; simp only [List.length_cons]; omega
    have e0 : nI (x :: k).length - 1 = nI k.length := by
      rw [show (1 : Int32) = nI 1 from rfl, nI_sub (by simp only [List.length_cons]; omega)]; rfl
    have hl' : k.length + 1 ≤ 40 := hl
    rw [if_neg g0, e0, nI_clamp (by omega)]
    refine ⟨fun _ => vp_in_nI (by omega) (by omega), ?_⟩
    have := h2 k.length (by simp only [List.length_cons]; omega)
    rw [List.reverse_cons, getD_snoc (by rw [List.length_reverse]; omega), List.length_reverse, if_pos rfl] at this
    exact this
theorem C_pop {x : Nat} (h : PiC (x :: k) μ) (hl : k.length ≤ 40) : p_X4_pop (20 + 3) μ ∧ v_X4_pop (20 + 3) μ = nI x ∧ PiC k (e_X4_pop (20 + 3) μ) ∧ Fr [23] μ (e_X4_pop (20 + 3) μ) := by
  obtain ⟨h1, h2⟩ := h
  have h1' : μ.1 (20 + 3) 1 = nI (k.length + 1) := h1
  have g0 : ¬ (nI (k.length + 1) = 0) := by rw [fa_eq, t0, nI_toInt (by omega)]; omega
  have e0 : nI (k.length + 1) - 1 = nI k.length := by
    rw [show (1 : Int32) = nI 1 from rfl, nI_sub (by omega)]; rfl
  unfold p_X4_pop v_X4_pop e_X4_pop
  simp only [forall_eq]
  rw [h1', if_neg g0, if_neg g0, e0]
  have er : (upI μ (20 + 3) 1 (nI k.length)).1 (20 + 3) 1 = nI k.length := by rw [rI, if_pos ⟨rfl, rfl⟩]
  rw [er, nI_clamp (by omega)]
  refine ⟨fun _ => vp_in_nI (by omega) (by omega), ?_, ⟨er, fun i hi => ?_⟩, Fr.rfl.up (by simp)⟩
  · rw [rI, if_neg (by omega)]
    have := h2 k.length (by simp only [List.length_cons]; omega)
    rw [List.reverse_cons, getD_snoc (by rw [List.length_reverse]; omega), List.length_reverse, if_pos rfl] at this
    exact this
  · rw [rI, if_neg (by omega)]
    have := h2 i (by simp only [List.length_cons]; omega)
    rw [List.reverse_cons, getD_snoc (by rw [List.length_reverse]; omega), List.length_reverse, if_neg (by omega)] at this
    exact this
theorem C_emitW {r : Nat} (hr : 1 ≤ r) (hr4 : r ≤ 4) (ho : OuC o μ) (hk : PiC k μ) (hl : o.length + k.length ≤ 40) (hK : ∀ y, y ∈ k → okK y) : p_X5_emitWaiting 20 (nI r) μ ∧ (fun z : Mm => OuC (o ++ (tw r k).map cdO) z ∧ PiC (dw r k) z ∧ (∀ j, j ≠ 1 → z.1 20 j = μ.1 20 j)) (e_X5_emitWaiting 20 (nI r) μ) := by
  unfold p_X5_emitWaiting e_X5_emitWaiting
  refine lpI (f := fun s : Int32 × Int32 × Mm => bd_X5_emitWaiting_2 20 s.1 s.2.1 s.2.2) (sd := fun s : Int32 × Int32 × Mm => sd_X5_emitWaiting_2 20 s.1 s.2.1 s.2.2) (dd := fun s : Int32 × Int32 × Mm => s.2.2)
    (I := fun i s => ∃ o' k' μ', s = (nI r, nI i, μ') ∧ i + k'.length = k.length ∧ o'.length = o.length + i ∧ OuC o' μ' ∧ PiC k' μ' ∧ o' ++ (tw r k').map cdO = o ++ (tw r k).map cdO ∧ dw r k' = dw r k ∧ (∀ y, y ∈ k' → okK y) ∧ (∀ j, j ≠ 1 → μ'.1 20 j = μ.1 20 j))
    (R := fun z : Mm => OuC (o ++ (tw r k).map cdO) z ∧ PiC (dw r k) z ∧ (∀ j, j ≠ 1 → z.1 20 j = μ.1 20 j)) 41 (by omega) ?_ (s0 := (nI r, 0, μ)) ⟨o, k, μ, rfl, by omega, by omega, ho, hk, rfl, rfl, hK, fun _ _ => rfl⟩
  rintro i _ hi ⟨o', k', μ', rfl, hik, hol, ho', hk', e1, e2, hK', hj⟩
  dsimp only
  unfold sd_X5_emitWaiting_2 bd_X5_emitWaiting_2
  obtain ⟨t1, t2⟩ := C_top hk' (by omega)
  have g40 : ((40 : Int32) < nI i) ↔ 40 < i := nI_ltI (a := 40) (by omega) (by omega)
  rw [t2]
  simp only [forall_eq, g40]
  rw [if_neg (show ¬ 40 < i by omega)]
  cases k' with
  | nil =>
    have g0 : v_X5_rankOf (nI (([] : List Nat).headD 0)) < nI r := by
      rw [show v_X5_rankOf (nI (([] : List Nat).headD 0)) = nI 0 from rfl, nI_ltI (by omega) (by omega)]; omega
    rw [if_pos g0]
    refine ⟨fun _ => ⟨t1, fun y => absurd g0 y⟩, .inr ⟨_, rfl, ?_, ?_, hj⟩⟩
    · rw [← e1, show tw r [] = [] from rfl, List.map_nil, List.append_nil]; exact ho'
    · rw [← e2]; exact hk'
  | cons x k' =>
    have hx := okK_lt (hK' x List.mem_cons_self)
    have hd : (x :: k').headD 0 = x := rfl
    rw [hd, rk_c x hx]
    have hrk : rkO x < 2 ^ 31 := by
      unfold rkO
      have := brk_le x
      split <;> omega
    simp only [nI_ltI hrk (show r < 2 ^ 31 by omega)]
    rw [List.length_cons] at hik
    by_cases q : rkO x < r
    · have w1 : tw r (x :: k') = [] := by
        unfold tw; rw [List.takeWhile_cons_of_neg (by simpa using q)]
      have w2 : dw r (x :: k') = x :: k' := by
        unfold dw; rw [List.dropWhile_cons_of_neg (by simpa using q)]
      rw [if_pos q]
      refine ⟨fun _ => ⟨t1, fun y => absurd q y⟩, .inr ⟨_, rfl, ?_, ?_, hj⟩⟩
      · rw [← e1, w1, List.map_nil, List.append_nil]; exact ho'
      · rw [← e2, w2]; exact hk'
    · have w1 : tw r (x :: k') = x :: tw r k' := by
        unfold tw; rw [List.takeWhile_cons_of_pos (by simpa using q)]
      have w2 : dw r (x :: k') = dw r k' := by
        unfold dw; rw [List.dropWhile_cons_of_pos (by simpa using q)]
      rw [if_neg q]
      obtain ⟨p1, p2, p3, p4⟩ := C_pop hk' (by omega)
      rw [p2]
      have ho5 : OuC o' (e_X4_pop (20 + 3) μ') := by
        unfold OuC; rw [p4.1 20 (by decide), p4.1 21 (by decide)]; exact ho'
      obtain ⟨m1, m2, m3, m4⟩ := C_emit (x := -nI x) ho5 (by omega) (tok_c x hx (by omega))
      refine ⟨fun _ => ⟨t1, fun _ => ⟨p1, m1⟩⟩, .inl ⟨_, rfl, by omega, o' ++ [cdO x], k', _, by rw [nI_1], by omega, ?_, m2, ?_, ?_, ?_, fun y hy => hK' y (List.mem_cons_of_mem _ hy), fun j hj1 => ?_⟩⟩
      · rw [List.length_append]; simp only [List.length_cons, List.length_nil]; omega
      · unfold PiC; rw [m4.1 23 (by decide), m4.1 24 (by decide)]; exact p3
      · rw [← e1, w1, List.map_cons, List.append_assoc]; rfl
      · rw [← e2, w2]
      · rw [m3 j hj1, p4.1 20 (by decide)]; exact hj j hj1
theorem idx_c : ∀ x, x < 256 → ∀ j, j < 7 → decide (((strByt.getD 0 []).getD j 0) = (Int32.toInt8 (nI x)).toInt32) = decide (thW.getD j 0 = x) := by decide +kernel
theorem C_index {x : Nat} (hx : x < 256) : p_J0_indexOf_0f7a4 0 (nI x) μ ∧ v_J0_indexOf_0f7a4 0 (nI x) μ = wxI (thg' x) := by
  have ce : v_J1_canEncode_9a6ad (nI x) = 1 := by
    revert hx; revert x; decide +kernel
  have l0 : v_J0_isLatin1_aae02 0 = 1 := by decide +kernel
  have ln : v_J0_length_8abf5 0 = nI 7 := by decide +kernel
  have sl : Int32.ofNat (strLen.getD 0 0) = nI 7 := rfl
  have key := lpI (f := fun s : Int32 × Int32 × Int32 => bd_J1_indexOfChar_4cfef_7 0 μ s.1 s.2.1 s.2.2) (sd := fun s : Int32 × Int32 × Int32 => sd_J1_indexOfChar_4cfef_7 0 μ s.1 s.2.1 s.2.2) (dd := fun _ : Int32 × Int32 × Int32 => 0)
    (I := fun i s => i ≤ 7 ∧ s = (nI 7, (Int32.toInt8 (nI x)).toInt32, nI i) ∧ ff (fun j => decide (thW.getD j 0 = x)) i (7 - i) = thg' x) (R := fun z => z = wxI (thg' x)) 7 (by omega) ?_ (s0 := (nI 7, (Int32.toInt8 (nI x)).toInt32, 0)) ⟨by omega, rfl, rfl⟩
  · unfold p_J0_indexOf_0f7a4 v_J0_indexOf_0f7a4 p_J0_indexOf_7cf53 v_J0_indexOf_7cf53 p_J1_indexOf_4cfef v_J1_indexOf_4cfef p_J1_indexOfChar_4cfef v_J1_indexOfChar_4cfef
    rw [ce, l0, ln, sl]
    have i0 : ¬ ((0 : Int32) < 0) := by decide
    have i7 : ¬ (nI 7 < nI 7) := by decide
    have i07 : (0 : Int32) < nI 7 := by decide
    have o1 : ¬ ((1 : Int32) = 0) := by decide
    simp only [i0, i7, if_false, i07, if_true, o1, false_imp_iff, true_and, not_false_eq_true, true_imp_iff]
    exact key
  · rintro i _ hi ⟨hi2, rfl, hf⟩
    dsimp only
    unfold sd_J1_indexOfChar_4cfef_7 bd_J1_indexOfChar_4cfef_7
    simp only [nI_leI (show 7 < 2 ^ 31 by omega) (show i < 2 ^ 31 by omega), nI_clamp (show i < 2 ^ 31 by omega), nI_1]
    rcases Nat.lt_or_ge i 7 with z | z
    · rw [if_neg (show ¬ 7 ≤ i by omega)]
      have hd := idx_c x hx i z
      rw [show 7 - i = (6 - i) + 1 by omega] at hf
      refine ⟨fun _ => vp_in_nI z (by decide), ?_⟩
      by_cases q : thW.getD i 0 = x
      · rw [ff_y (P := fun j => decide (thW.getD j 0 = x)) (decide_eq_true q)] at hf
        rw [decide_eq_true q] at hd
        rw [if_pos (of_decide_eq_true hd), ← hf]
        exact .inr ⟨_, rfl, rfl⟩
      · rw [ff_n (P := fun j => decide (thW.getD j 0 = x)) (decide_eq_false q)] at hf
        rw [decide_eq_false q] at hd
        rw [if_neg (of_decide_eq_false hd)]
        exact .inl ⟨_, rfl, z, z, rfl, by rw [show 7 - (i + 1) = 6 - i by omega]; exact hf⟩
    · have e : i = 7 := by omega
      subst e
      rw [if_pos (Nat.le_refl 7)]
      have h0 : thg' x = none := hf.symm
      rw [h0]
      exact ⟨fun y => absurd (Nat.le_refl 7) y, .inr ⟨_, rfl, rfl⟩⟩
end YC

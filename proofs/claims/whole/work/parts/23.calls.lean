/-! seen, heard, sign, sheet -/
theorem getD_ap {α : Type} (L : List α) (x d : α) {i : Nat} (hi : i < L.length + 1) : (L ++ [x]).getD i d = if i = L.length then x else L.getD i d := by
  by_cases e : i = L.length
  · subst e; simp [List.getD]
  · rw [if_neg e]
    simp [List.getD, List.getElem?_append, show i < L.length by omega]
theorem w5 (w : Int32) : w = 0 ∨ w = 1 ∨ w = 2 ∨ w = 3 ∨ w = 4 ∨ (w ≠ 0 ∧ w ≠ 1 ∧ w ≠ 2 ∧ w ≠ 3 ∧ w ≠ 4) := by
  by_cases h0 : w = 0
  · exact .inl h0
  by_cases h1 : w = 1
  · exact .inr (.inl h1)
  by_cases h2 : w = 2
  · exact .inr (.inr (.inl h2))
  by_cases h3 : w = 3
  · exact .inr (.inr (.inr (.inl h3)))
  by_cases h4 : w = 4
  · exact .inr (.inr (.inr (.inr (.inl h4))))
  exact .inr (.inr (.inr (.inr (.inr ⟨h0, h1, h2, h3, h4⟩))))
theorem inB01 (v : Int32) : inB v 0 1 = (decide (v = 0) || decide (v = 1)) := by
  unfold inB
  simp only [fa_eq, t0, t1]
  by_cases h0 : v.toInt = 0
  · simp [h0]
  · by_cases h1 : v.toInt = 1
    · simp [h1]
    · simp [h0, h1]; omega
theorem may_C (w v : Int32) : v_X2_mayBe w v = if hokB w v then 1 else 0 := by
  unfold v_X2_mayBe hokB
  rw [ite_gt t1 t18, ite_gt t0 t9, inB01]
  rcases w5 w with rfl | rfl | rfl | rfl | rfl | ⟨h0, h1, h2, h3, h4⟩
  · simp
  · by_cases q0 : v = 0 <;> by_cases q1 : v = 1 <;> simp [q0, q1]
  · simp
  · by_cases q0 : v = 0 <;> by_cases q1 : v = 1 <;> simp [q0, q1]
  · by_cases q0 : v = 0 <;> by_cases q1 : v = 1 <;> simp [q0, q1]
  · simp [h0, h1, h2, h3, h4]
theorem in04 {w : Int32} (h0 : w ≠ 0) (h1 : w ≠ 1) (h2 : w ≠ 2) (h3 : w ≠ 3) (h4 : w ≠ 4) : inB w 0 4 = false := by
  cases h : inB w 0 4
  · rfl
  · obtain ⟨i, hi, rfl⟩ := inB_nI (h := 4) h (by omega)
    have : i = 0 ∨ i = 1 ∨ i = 2 ∨ i = 3 ∨ i = 4 := by omega
    rcases this with rfl | rfl | rfl | rfl | rfl
    · exact absurd rfl h0
    · exact absurd rfl h1
    · exact absurd rfl h2
    · exact absurd rfl h3
    · exact absurd rfl h4
theorem may_M (w v : Int32) : (inB w 0 4 && inB v (v_X12_lowest w).toInt (v_X12_highest w).toInt) = hokB w v := by
  unfold hokB
  rcases w5 w with rfl | rfl | rfl | rfl | rfl | ⟨h0, h1, h2, h3, h4⟩
  · rw [show inB 0 0 4 = true by decide +kernel, show (v_X12_lowest 0).toInt = 1 by decide +kernel, show (v_X12_highest 0).toInt = 18 by decide +kernel]; simp
  · rw [show inB 1 0 4 = true by decide +kernel, show (v_X12_lowest 1).toInt = 0 by decide +kernel, show (v_X12_highest 1).toInt = 1 by decide +kernel]; simp
  · rw [show inB 2 0 4 = true by decide +kernel, show (v_X12_lowest 2).toInt = 0 by decide +kernel, show (v_X12_highest 2).toInt = 9 by decide +kernel]; simp
  · rw [show inB 3 0 4 = true by decide +kernel, show (v_X12_lowest 3).toInt = 0 by decide +kernel, show (v_X12_highest 3).toInt = 1 by decide +kernel]; simp
  · rw [show inB 4 0 4 = true by decide +kernel, show (v_X12_lowest 4).toInt = 0 by decide +kernel, show (v_X12_highest 4).toInt = 1 by decide +kernel]; simp
  · rw [in04 h0 h1 h2 h3 h4]; simp [h0, h1, h2, h3, h4]
section CC
variable {σ : ST} {R : List Int64} {μ : Mm}
def okH (σ : ST) (w v : Int32) : Bool := hokB w v && decide ((s_H σ).length < 12)
theorem pX2_add (hc : HeC (s_H σ) μ) (w v : Int32) : p_X2_add w v μ := by
  obtain ⟨h1, h2, h3⟩ := hc
  unfold p_X2_add
  rw [h2, show (12 : Int32) = nI 12 from rfl]
  simp only [nI_ltI (show (s_H σ).length < 2 ^ 31 by omega) (show 12 < 2 ^ 31 by omega), nI_clamp (show (s_H σ).length < 2 ^ 31 by omega), forall_eq]
  simp (disch := omega) only [rIc, h2, nI_clamp]
  exact fun q => ⟨vp_in_nI (by omega) (by omega), vp_in_nI (by omega) (by omega)⟩
theorem C_heard (hc : CS σ μ) (w v : Int32) : p_X11_heard w v μ ∧ v_X11_heard w v μ = (if okH σ w v then nI ((s_H σ).length + 1) else -1) ∧ HeC (if okH σ w v then s_H σ ++ [(w, v)] else s_H σ) (e_X11_heard w v μ) := by
  obtain ⟨h1, h2, h3⟩ := hc.H
  refine ⟨fun _ => pX2_add hc.H w v, ?_⟩
  unfold v_X11_heard e_X11_heard v_X2_add e_X2_add okH
  rw [may_C, h2, show (12 : Int32) = nI 12 from rfl]
  simp only [nI_ltI (show (s_H σ).length < 2 ^ 31 by omega) (show 12 < 2 ^ 31 by omega), nI_clamp (show (s_H σ).length < 2 ^ 31 by omega)]
  cases hokB w v
  · simp only [Bool.false_eq_true, if_false, if_true, Bool.false_and]
    exact ⟨trivial, hc.H⟩
  · by_cases q : (s_H σ).length < 12
    · simp (disch := omega) only [q, if_true, decide_true, Bool.and_self, rI, and_self, if_pos, if_neg, h2, nI_1, nI_clamp, show ¬ ((1 : Int32) = 0) from by decide, if_false]
      refine ⟨trivial, by simp; omega, by simp [rI], fun i hi => ?_⟩
      simp only [List.length_append, List.length_cons, List.length_nil] at hi
      rw [getD_ap _ _ _ hi]
      by_cases e : i = (s_H σ).length
      · subst e; simp [rI]
      · have := h3 i (by omega)
        simp [rI, e, this]
    · simp only [q, if_true, decide_false, Bool.and_false, show ¬ ((1 : Int32) = 0) from by decide, if_false, Bool.false_eq_true]
      exact ⟨trivial, hc.H⟩
theorem M_heard (hc : MS σ μ) (w v : Int32) : p_X12_heard w v μ ∧ v_X12_heard w v μ = (if okH σ w v then nI ((s_H σ).length + 1) else -1) ∧ HeM (if okH σ w v then s_H σ ++ [(w, v)] else s_H σ) (e_X12_heard w v μ) := by
  have hc0 := hc.th 0
  obtain ⟨h1, h2, h3⟩ := hc0.H
  have hmay := may_M w v
  refine ⟨?_, ?_⟩
  · unfold p_X12_heard
    simp only [forall_eq]
    generalize upI μ 49 0 0 = μ1 at *
    rw [h2, show (12 : Int32) = nI 12 from rfl]
    simp only [nI_eq (show (s_H σ).length < 2 ^ 31 by omega) (show 12 < 2 ^ 31 by omega), nI_clamp (show (s_H σ).length < 2 ^ 31 by omega)]
    simp (disch := omega) only [rIc, h2]
    exact fun _ _ _ => ⟨vp_in_nI (by omega) (by omega), vp_in_nI (by omega) (by omega)⟩
  unfold v_X12_heard e_X12_heard okH
  dsimp only
  generalize upI μ 49 0 0 = μ1 at *
  rw [in_B s0 s4, in_B (Int32.toInt_toInt64 _) (Int32.toInt_toInt64 _), h2, show (12 : Int32) = nI 12 from rfl, ← hmay]
  simp only [nI_eq (show (s_H σ).length < 2 ^ 31 by omega) (show 12 < 2 ^ 31 by omega), nI_clamp (show (s_H σ).length < 2 ^ 31 by omega)]
  cases inB w 0 4
  · simp only [Bool.false_eq_true, if_false, if_true, Bool.false_and]
    exact ⟨trivial, hc0.H⟩
  · cases inB v (v_X12_lowest w).toInt (v_X12_highest w).toInt
    · simp only [Bool.false_eq_true, if_false, if_true, Bool.false_and, Bool.and_false, show ¬ ((1 : Int32) = 0) from by decide]
      exact ⟨trivial, hc0.H⟩
    · by_cases q : (s_H σ).length < 12
      · simp (disch := omega) only [q, if_true, decide_true, Bool.and_self, rI, and_self, if_pos, if_neg, h2, nI_1, nI_clamp, show ¬ ((1 : Int32) = 0) from by decide, if_false]
        refine ⟨trivial, by simp; omega, by simp [rI], fun i hi => ?_⟩
        simp only [List.length_append, List.length_cons, List.length_nil] at hi
        rw [getD_ap _ _ _ hi]
        by_cases e : i = (s_H σ).length
        · subst e; simp [rI]
        · have := h3 i (by omega)
          simp [rI, e, this]
      · have q2 : (s_H σ).length = 12 := by omega
        simp only [q2, if_true, show ¬ (12 < 12) from by omega, decide_false, Bool.and_false, show ¬ ((1 : Int32) = 0) from by decide, if_false, Bool.false_eq_true]
        exact ⟨trivial, hc0.H⟩
theorem call_heard (h : Sim σ R μ) (w v : Int32) : Call (p_X11_heard w v μ) (p_X12_heard w v (e_X11_heard w v μ)) (v_X11_heard w v μ) (v_X12_heard w v (e_X11_heard w v μ)) (e_X12_heard w v (e_X11_heard w v μ)) := by
  obtain ⟨ok, hc, hm, tc, tm⟩ := h
  have fC := fr_X11_heard w v μ
  have hm1 := hm.frC fC (by decide)
  have tm1 := tm.frC fC (by decide)
  have tc1 := tc.fr fC (by decide)
  have fM := fs_X12_heard w v (e_X11_heard w v μ)
  obtain ⟨a1, a2, a3⟩ := C_heard hc w v
  obtain ⟨b1, b2, b3⟩ := M_heard hm1 w v
  refine ⟨a1, b1, a2.trans b2.symm, Both (σ' := (s_F σ, s_r σ, s_T σ, s_U σ, s_K σ, s_S σ, if okH σ w v then s_H σ ++ [(w, v)] else s_H σ)) ⟨ok, hc, hm, tc, tm⟩ ⟨ok.1, ok.2.1, ok.2.2.1, ok.2.2.2.1, ok.2.2.2.2.1, ok.2.2.2.2.2.1, fun x hx => ?_⟩ ⟨hc.F.fr fC (by decide), hc.r.fr fC (by decide), hc.T.fr fC (by decide), hc.U.fr fC (by decide), hc.K.fr fC (by decide), hc.S.fr fC (by decide), a3⟩ tc1 ⟨hm1.F.fs fM (by decide), hm1.r.fs fM (by decide), hm1.T.fs fM (by decide), hm1.U.fs fM (by decide), hm1.K.fs fM (by decide), hm1.S.fs fM (by decide), b3⟩ (tm1.fs fM (by decide)) fM (by decide)⟩
  have hx' : x ∈ (if okH σ w v then s_H σ ++ [(w, v)] else s_H σ) := hx
  cases q : okH σ w v
  · rw [q] at hx'; exact ok.2.2.2.2.2.2 x hx'
  · rw [q] at hx'
    rcases List.mem_append.mp hx' with e | e
    · exact ok.2.2.2.2.2.2 x e
    · rw [List.mem_singleton] at e
      subst e
      unfold okH at q
      simp only [Bool.and_eq_true] at q
      exact q.1
def okS (σ : ST) (k n p : Int32) : Bool := hasF (s_F σ) k && (inB n 0 20 && (inB p (-9) 9 && decide ((s_S σ).length < 10)))
theorem pX6_add (hc : SeC (s_S σ) μ) (k n p : Int32) : p_X6_add k n p μ := by
  obtain ⟨h1, h2, h3⟩ := hc
  unfold p_X6_add
  rw [h2, show (10 : Int32) = nI 10 from rfl]
  simp only [nI_ltI (show (s_S σ).length < 2 ^ 31 by omega) (show 10 < 2 ^ 31 by omega), nI_clamp (show (s_S σ).length < 2 ^ 31 by omega), forall_eq]
  simp (disch := omega) only [rIc, h2, nI_clamp]
  exact fun q => ⟨vp_in_nI (by omega) (by omega), vp_in_nI (by omega) (by omega), vp_in_nI (by omega) (by omega)⟩
theorem C_seen (hc : CS σ μ) (k n p : Int32) : p_X11_seen k n p μ ∧ v_X11_seen k n p μ = (if okS σ k n p then nI ((s_S σ).length + 1) else -1) ∧ SeC (if okS σ k n p then s_S σ ++ [(k, n, p)] else s_S σ) (e_X11_seen k n p μ) := by
  obtain ⟨h1, h2, h3⟩ := hc.S
  refine ⟨fun _ _ _ _ _ => pX6_add hc.S k n p, ?_⟩
  unfold v_X11_seen e_X11_seen v_X6_add e_X6_add okS
  rw [C_has hc.F, ite_in tm9 t9, ite_in tm9 t9, ite_gt t0 t20, ite_gt t0 t20, h2, show (10 : Int32) = nI 10 from rfl]
  simp only [nI_ltI (show (s_S σ).length < 2 ^ 31 by omega) (show 10 < 2 ^ 31 by omega), nI_clamp (show (s_S σ).length < 2 ^ 31 by omega)]
  cases hasF (s_F σ) k
  · simp only [Bool.false_eq_true, if_false, if_true, Bool.false_and]
    exact ⟨trivial, hc.S⟩
  · cases inB n 0 20
    · simp only [Bool.false_eq_true, if_false, if_true, Bool.false_and, Bool.and_false, show ¬ ((1 : Int32) = 0) from by decide]
      exact ⟨trivial, hc.S⟩
    · cases inB p (-9) 9
      · simp only [Bool.false_eq_true, if_false, if_true, Bool.false_and, Bool.and_false, show ¬ ((1 : Int32) = 0) from by decide]
        exact ⟨trivial, hc.S⟩
      · by_cases q : (s_S σ).length < 10
        · simp (disch := omega) only [q, if_true, decide_true, Bool.and_self, rI, and_self, if_pos, if_neg, h2, nI_1, nI_clamp, show ¬ ((1 : Int32) = 0) from by decide, if_false]
          refine ⟨trivial, by simp; omega, by simp [rI], fun i hi => ?_⟩
          simp only [List.length_append, List.length_cons, List.length_nil] at hi
          rw [getD_ap _ _ _ hi]
          by_cases e : i = (s_S σ).length
          · subst e; simp [rI]
          · have := h3 i (by omega)
            simp [rI, e, this]
        · simp only [q, if_true, decide_false, Bool.and_false, show ¬ ((1 : Int32) = 0) from by decide, if_false, Bool.false_eq_true]
          exact ⟨trivial, hc.S⟩
theorem M_seen (hc : MS σ μ) (k n p : Int32) : p_X12_seen k n p μ ∧ v_X12_seen k n p μ = (if okS σ k n p then nI ((s_S σ).length + 1) else -1) ∧ SeM (if okS σ k n p then s_S σ ++ [(k, n, p)] else s_S σ) (e_X12_seen k n p μ) := by
  have hc0 := hc.th 0
  obtain ⟨h1, h2, h3⟩ := hc0.S
  refine ⟨?_, ?_⟩
  · unfold p_X12_seen
    simp only [forall_eq]
    generalize upI μ 49 0 0 = μ1 at *
    rw [h2, show (10 : Int32) = nI 10 from rfl]
    simp only [nI_eq (show (s_S σ).length < 2 ^ 31 by omega) (show 10 < 2 ^ 31 by omega), nI_clamp (show (s_S σ).length < 2 ^ 31 by omega)]
    simp (disch := omega) only [rIc, h2, nI_clamp]
    exact fun _ _ _ _ => ⟨vp_in_nI (by omega) (by omega), vp_in_nI (by omega) (by omega), vp_in_nI (by omega) (by omega)⟩
  unfold v_X12_seen e_X12_seen okS
  dsimp only
  generalize upI μ 49 0 0 = μ1 at *
  rw [M_isOne hc0.F, in_B s0 s20, in_B sm9 s9, h2, show (10 : Int32) = nI 10 from rfl]
  simp only [nI_eq (show (s_S σ).length < 2 ^ 31 by omega) (show 10 < 2 ^ 31 by omega), nI_clamp (show (s_S σ).length < 2 ^ 31 by omega)]
  cases hasF (s_F σ) k
  · simp only [Bool.false_eq_true, if_false, if_true, Bool.false_and]
    exact ⟨trivial, hc0.S⟩
  · cases inB n 0 20
    · simp only [Bool.false_eq_true, if_false, if_true, Bool.false_and, Bool.and_false, show ¬ ((1 : Int32) = 0) from by decide]
      exact ⟨trivial, hc0.S⟩
    · cases inB p (-9) 9
      · simp only [Bool.false_eq_true, if_false, if_true, Bool.false_and, Bool.and_false, show ¬ ((1 : Int32) = 0) from by decide]
        exact ⟨trivial, hc0.S⟩
      · by_cases q : (s_S σ).length < 10
        · simp (disch := omega) only [q, if_true, decide_true, Bool.and_self, rI, and_self, if_pos, if_neg, h2, nI_1, nI_clamp, show ¬ ((1 : Int32) = 0) from by decide, if_false]
          refine ⟨trivial, by simp; omega, by simp [rI], fun i hi => ?_⟩
          simp only [List.length_append, List.length_cons, List.length_nil] at hi
          rw [getD_ap _ _ _ hi]
          by_cases e : i = (s_S σ).length
          · subst e; simp [rI]
          · have := h3 i (by omega)
            simp [rI, e, this]
        · have q2 : (s_S σ).length = 10 := by omega
          simp only [q2, if_true, show ¬ (10 < 10) from by omega, decide_false, Bool.and_false, show ¬ ((1 : Int32) = 0) from by decide, if_false, Bool.false_eq_true]
          exact ⟨trivial, hc0.S⟩
theorem call_seen (h : Sim σ R μ) (k n p : Int32) : Call (p_X11_seen k n p μ) (p_X12_seen k n p (e_X11_seen k n p μ)) (v_X11_seen k n p μ) (v_X12_seen k n p (e_X11_seen k n p μ)) (e_X12_seen k n p (e_X11_seen k n p μ)) := by
  obtain ⟨ok, hc, hm, tc, tm⟩ := h
  have fC := fr_X11_seen k n p μ
  have hm1 := hm.frC fC (by decide)
  have tm1 := tm.frC fC (by decide)
  have tc1 := tc.fr fC (by decide)
  have fM := fs_X12_seen k n p (e_X11_seen k n p μ)
  obtain ⟨a1, a2, a3⟩ := C_seen hc k n p
  obtain ⟨b1, b2, b3⟩ := M_seen hm1 k n p
  refine ⟨a1, b1, a2.trans b2.symm, Both (σ' := (s_F σ, s_r σ, s_T σ, s_U σ, s_K σ, (if okS σ k n p then s_S σ ++ [(k, n, p)] else s_S σ), s_H σ)) ⟨ok, hc, hm, tc, tm⟩ ⟨ok.1, ok.2.1, ok.2.2.1, ok.2.2.2.1, ok.2.2.2.2.1, fun x hx => ?_, ok.2.2.2.2.2.2⟩ ⟨hc.F.fr fC (by decide), hc.r.fr fC (by decide), hc.T.fr fC (by decide), hc.U.fr fC (by decide), hc.K.fr fC (by decide), a3, hc.H.fr fC (by decide)⟩ tc1 ⟨hm1.F.fs fM (by decide), hm1.r.fs fM (by decide), hm1.T.fs fM (by decide), hm1.U.fs fM (by decide), hm1.K.fs fM (by decide), b3, hm1.H.fs fM (by decide)⟩ (tm1.fs fM (by decide)) fM (by decide)⟩
  have hx' : x ∈ (if okS σ k n p then s_S σ ++ [(k, n, p)] else s_S σ) := hx
  cases q : okS σ k n p
  · rw [q] at hx'; exact ok.2.2.2.2.2.1 x hx'
  · rw [q] at hx'
    rcases List.mem_append.mp hx' with e | e
    · exact ok.2.2.2.2.2.1 x e
    · rw [List.mem_singleton] at e
      subst e
      unfold okS at q
      simp only [Bool.and_eq_true] at q
      exact ⟨q.1, q.2.1, q.2.2.1⟩
end CC

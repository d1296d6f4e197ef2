/-! the model reads a text -/
def Rd (T : List Nat) (a e : Nat) (μ : Mm) : Prop := T.length ≤ 80 ∧ e ≤ T.length ∧ a ≤ e ∧ μ.1 49 10 = nI a ∧ μ.1 49 11 = nI e ∧ ∀ i, i < T.length → μ.1 54 i = nI (T.getD i 0)
def chT (T : List Nat) (i : Nat) : Nat := T.getD i 0
def isD (T : List Nat) (a e : Nat) (lo hi : Nat) : Bool := decide (a < e) && decide (48 + lo ≤ chT T a ∧ chT T a ≤ 48 + hi)
section RD
variable {T : List Nat} {a e : Nat} {μ : Mm}
theorem Rd.fs {S : List Nat} {μ' : Mm} (h : Rd T a e μ) (f : Fs S μ μ') (hb : 49 ∉ S ∧ 54 ∉ S ∧ 1010 ∉ S ∧ 1011 ∉ S) : Rd T a e μ' := by
  unfold Rd
  rw [f.1 49 10 hb.1 (.inr hb.2.2.1), f.1 49 11 hb.1 (.inr hb.2.2.2)]
  simp only [f.1 54 _ hb.2.1 (.inl (by decide))]
  exact h
theorem Rd.adv (h : Rd T a e μ) (ha : a < e) : Rd T (a + 1) e (upI μ 49 10 (nI (a + 1))) := by
  obtain ⟨h1, h2, h3, h4, h5, h6⟩ := h
  refine ⟨h1, h2, ha, by rw [rI, if_pos ⟨rfl, rfl⟩], by rw [rI, if_neg (by omega)]; exact h5, fun i hi => by rw [rI, if_neg (by omega)]; exact h6 i hi⟩
theorem Rd.le (h : Rd T a e μ) : ((μ.1 49 11) ≤ (μ.1 49 10)) ↔ e ≤ a := by
  obtain ⟨h1, h2, h3, h4, h5, h6⟩ := h
  rw [h4, h5]
  exact nI_leI (by omega) (by omega)
theorem Rd.ch (h : Rd T a e μ) (ha : a < e) : μ.1 54 (Int32.toNatClampNeg (μ.1 49 10)) = nI (chT T a) ∧ vp_in (μ.1 49 10) 80 := by
  obtain ⟨h1, h2, h3, h4, h5, h6⟩ := h
  rw [h4, nI_clamp (by omega)]
  exact ⟨h6 a (by omega), vp_in_nI (by omega) (by omega)⟩
theorem R_takes (h : Rd T a e μ) (hT : ∀ i, chT T i < 256) {c : Nat} (hc : c < 256) : p_X12_takes (nI c) μ ∧ v_X12_takes (nI c) μ = (if (decide (a < e) && decide (chT T a = c)) then 1 else 0) ∧ Rd T (if (decide (a < e) && decide (chT T a = c)) then a + 1 else a) e (e_X12_takes (nI c) μ) := by
  unfold p_X12_takes v_X12_takes e_X12_takes
  simp only [h.le]
  rcases Nat.lt_or_ge a e with z | z
  · obtain ⟨c1, c2⟩ := h.ch z
    have hTa := hT a
    rw [c1, if_neg (by omega), decide_eq_true z, Bool.true_and]
    simp only [nI_eq (show chT T a < 2 ^ 31 by omega) (show c < 2 ^ 31 by omega)]
    by_cases q : chT T a = c
    · have f1 : v_X12_flag 1 = 1 := rfl
      rw [if_pos q, f1, h.2.2.2.1, nI_1]
      simp only [q, decide_true, if_true]
      exact ⟨fun _ => vp_in_nI (by have := h.1; have := h.2.1; omega) (by omega), trivial, h.adv z⟩
    · have f0 : v_X12_flag 0 = 0 := rfl
      rw [if_neg q, f0, Int32.add_zero]
      simp only [q, decide_false, Bool.false_eq_true, if_false]
      refine ⟨fun _ => c2, trivial, ?_⟩
      obtain ⟨h1, h2, h3, h4, h5, h6⟩ := h
      exact ⟨h1, h2, h3, by rw [rI, if_pos ⟨rfl, rfl⟩]; exact h4, by rw [rI, if_neg (by omega)]; exact h5, fun i hi => by rw [rI, if_neg (by omega)]; exact h6 i hi⟩
  · have f0 : v_X12_flag 0 = 0 := rfl
    rw [if_pos z, decide_eq_false (by omega), Bool.false_and, f0, Int32.add_zero]
    simp only [Bool.false_eq_true, if_false]
    refine ⟨fun y => absurd z y, trivial, ?_⟩
    obtain ⟨h1, h2, h3, h4, h5, h6⟩ := h
    exact ⟨h1, h2, h3, by rw [rI, if_pos ⟨rfl, rfl⟩]; exact h4, by rw [rI, if_neg (by omega)]; exact h5, fun i hi => by rw [rI, if_neg (by omega)]; exact h6 i hi⟩
theorem R_digitIn (h : Rd T a e μ) (hT : ∀ i, chT T i < 256) {lo hi : Nat} (hl : lo < 100) (hh : hi < 100) : p_X12_digitIn (nI lo) (nI hi) μ ∧ v_X12_digitIn (nI lo) (nI hi) μ = (if isD T a e lo hi then nI (chT T a) - 48 else -1) ∧ Rd T (if isD T a e lo hi then a + 1 else a) e (e_X12_digitIn (nI lo) (nI hi) μ) := by
  unfold p_X12_digitIn v_X12_digitIn e_X12_digitIn isD
  simp only [h.le, forall_eq]
  rcases Nat.lt_or_ge a e with z | z
  · obtain ⟨c1, c2⟩ := h.ch z
    have hTa := hT a
    have t48 : (48 : Int32).toInt = 48 := by decide +kernel
    have e1 : (nI lo).toInt64.toInt = (lo : Int) := by rw [Int32.toInt_toInt64, nI_toInt (by omega)]
    have e2 : (nI hi).toInt64.toInt = (hi : Int) := by rw [Int32.toInt_toInt64, nI_toInt (by omega)]
    have e3 : inB (nI (chT T a) - 48) lo hi = decide (48 + lo ≤ chT T a ∧ chT T a ≤ 48 + hi) := by
      unfold inB
      rw [toInt_subS (by rw [nI_toInt (by omega), t48]; omega), nI_toInt (by omega), t48]
      exact decide_eq_decide.mpr (by omega)
    rw [c1, if_neg (show ¬ e ≤ a by omega), if_neg (show ¬ e ≤ a by omega), in_B e1 e2, e3, decide_eq_true z, Bool.true_and]
    cases q : decide (48 + lo ≤ chT T a ∧ chT T a ≤ 48 + hi)
    · simp only [Bool.false_eq_true, if_false, if_true]
      exact ⟨fun _ => ⟨c2, fun y => absurd trivial y⟩, trivial, h⟩
    · simp only [if_true, show ¬ ((1 : Int32) = 0) from by decide, if_false]
      have h2 := h.adv z
      rw [h.2.2.2.1, nI_1]
      have e4 : (upI μ 49 10 (nI (a + 1))).1 49 10 - 1 = nI a := by
        rw [h2.2.2.2.1, show (1 : Int32) = nI 1 from rfl, nI_sub (by omega)]; rfl
      have hl80 := h.1
      have hel := h.2.1
      rw [e4, nI_clamp (by omega), h2.2.2.2.2.2 a (by omega)]
      exact ⟨fun _ => ⟨vp_in_nI (by omega) (by omega), fun _ => vp_in_nI (by omega) (by omega)⟩, rfl, h2⟩
  · rw [if_pos z, if_pos z, decide_eq_false (show ¬ a < e by omega), Bool.false_and]
    simp only [Bool.false_eq_true, if_false]
    exact ⟨fun y => absurd z y, trivial, h⟩
end RD

/-! the model reads one of the people -/
def sgS (T : List Nat) (a e : Nat) : Bool := (wxO [45, 43] T a e).isSome
def sgV (T : List Nat) (a e : Nat) : Int32 := if wxO [45, 43] T a e = some 1 then dgI T (a + 1) else -dgI T (a + 1)
def okO (T : List Nat) (n k a e : Nat) : Bool := decide (n + k ≠ 7) && (isD T a e 1 9 && (sgS T (a + 1) e && isD T (a + 2) e 0 9))
def ptO (T : List Nat) (n k a e : Nat) : Nat := if n + k = 7 then a else if isD T a e 1 9 then (if sgS T (a + 1) e then (if isD T (a + 2) e 0 9 then a + 3 else a + 2) else a + 1) else a
section OM
variable {T : List Nat} {a e : Nat} {μ : Mm}
theorem R_one (h : Rd T a e μ) (hT : ∀ i, chT T i < 256) {n k : Nat} (hn : n ≤ 7) (hk : k ≤ 6) (h3 : μ.1 49 3 = nI n) (h16 : μ.1 49 16 = nI k) : p_X12_readsOne μ ∧ v_X12_readsOne μ = (if okO T n k a e then 1 else 0) ∧ Rd T (ptO T n k a e) e (e_X12_readsOne μ) ∧ (okO T n k a e = true → (e_X12_readsOne μ).1 49 16 = nI (k + 1) ∧ (e_X12_readsOne μ).1 55 k = dgI T a ∧ (e_X12_readsOne μ).1 56 k = sgV T (a + 1) e ∧ ∀ j, j < k → (e_X12_readsOne μ).1 55 j = μ.1 55 j ∧ (e_X12_readsOne μ).1 56 j = μ.1 56 j) := by
  unfold p_X12_readsOne v_X12_readsOne e_X12_readsOne okO ptO
  simp only [forall_eq]
  have g7 : (nI n + nI k = 7) ↔ n + k = 7 := by rw [nI_add]; exact nI_eq (b := 7) (by omega) (by omega)
  rw [h3, h16]
  simp only [g7]
  by_cases q : n + k = 7
  · rw [if_pos q, if_pos q, if_pos q, decide_eq_false (fun y => y q), Bool.false_and]
    exact ⟨fun y => absurd q y, rfl, h, fun y => absurd y (by decide)⟩
  · rw [if_neg q, if_neg q, if_neg q, decide_eq_true (show n + k ≠ 7 from q), Bool.true_and]
    obtain ⟨d1, d2, d3⟩ := R_digitIn h hT (lo := 1) (hi := 9) (by omega) (by omega)
    have n1 : nI 1 = 1 := rfl
    have n9 : nI 9 = 9 := rfl
    rw [n1, n9] at d1 d2 d3
    have f1 := fs_X12_digitIn 1 9 μ
    have hk3 : (e_X12_digitIn 1 9 μ).1 49 16 = nI k := by rw [f1.1 49 16 (by decide) (.inr (by decide))]; exact h16
    have h55 : ∀ j, (e_X12_digitIn 1 9 μ).1 55 j = μ.1 55 j := fun j => f1.1 55 j (by decide) (.inl (by decide))
    have h56 : ∀ j, (e_X12_digitIn 1 9 μ).1 56 j = μ.1 56 j := fun j => f1.1 56 j (by decide) (.inl (by decide))
    rw [d2, nI_clamp (by omega)]
    generalize e_X12_digitIn 1 9 μ = μ3 at d3 hk3 h55 h56 ⊢
    generalize hv : (if isD T a e 1 9 then nI (chT T a) - 48 else -1 : Int32) = v
    have f5 : Fs [55] μ3 (upI μ3 55 k v) := Fs.rfl.up (by simp)
    have r5 : Rd T (if isD T a e 1 9 then a + 1 else a) e (upI μ3 55 k v) := d3.fs f5 (by decide)
    have hk5 : (upI μ3 55 k v).1 49 16 = nI k := by rw [rI, if_neg (by omega)]; exact hk3
    have h55' : ∀ j, (upI μ3 55 k v).1 55 j = if j = k then v else μ.1 55 j := fun j => by
      rw [rI]
      by_cases z : j = k
      · rw [if_pos ⟨rfl, z⟩, if_pos z]
      · rw [if_neg (by omega), if_neg z, h55]
    have h56' : ∀ j, (upI μ3 55 k v).1 56 j = μ.1 56 j := fun j => by rw [rI, if_neg (by omega), h56]
    generalize upI μ3 55 k v = μ5 at r5 hk5 h55' h56' ⊢
    rw [hk5, nI_clamp (by omega), h55' k, if_pos rfl]
    cases b1 : isD T a e 1 9
    · rw [b1] at hv r5
      have hv' : v = -1 := hv.symm
      have gm : v < 0 := by rw [hv']; decide
      rw [if_pos gm, if_pos gm, Bool.false_and]
      exact ⟨fun _ => ⟨d1, vp_in_nI (by omega) (by omega), vp_in_nI (by omega) (by omega), fun y => absurd gm y⟩, rfl, r5, fun y => absurd y (by decide)⟩
    · rw [b1] at hv r5
      have hv' : v = dgI T a := hv.symm
      have b1' : isD T a e 0 9 = true := by
        unfold isD at b1 ⊢
        simp only [Bool.and_eq_true, decide_eq_true_eq] at b1 ⊢
        omega
      obtain ⟨g1, g2⟩ := dgI_N hT b1'
      have gp : ¬ (v < 0) := by rw [hv', g1]; exact nI_pos (by omega)
      rw [if_neg gp, if_neg gp, Bool.true_and]
      have r5' : Rd T (a + 1) e μ5 := r5
      obtain ⟨s1, s2, s3, s4⟩ := R_signed tx1 r5' hT
      have f9 := fs_X12_readsSigned 1 μ5
      have hk9 : (e_X12_readsSigned 1 μ5).1 49 16 = nI k := by rw [f9.1 49 16 (by decide) (.inr (by decide))]; exact hk5
      have h559 : ∀ j, (e_X12_readsSigned 1 μ5).1 55 j = if j = k then v else μ.1 55 j := fun j => by rw [f9.1 55 j (by decide) (.inl (by decide))]; exact h55' j
      have h569 : ∀ j, (e_X12_readsSigned 1 μ5).1 56 j = μ.1 56 j := fun j => by rw [f9.1 56 j (by decide) (.inl (by decide))]; exact h56' j
      rw [s2]
      simp only [one0]
      generalize e_X12_readsSigned 1 μ5 = μ9 at s3 s4 hk9 h559 h569 ⊢
      have es : sgS T (a + 1) e = (wxO [45, 43] T (a + 1) e).isSome := rfl
      rw [← es] at s3 ⊢
      have ep : (if sgS T (a + 1) e = true then (if isD T (a + 2) e 0 9 = true then a + 3 else a + 2) else a + 1) = (if sgS T (a + 1) e = true then (if isD T (a + 1 + 1) e 0 9 = true then a + 1 + 2 else a + 1 + 1) else a + 1) := rfl
      have ec : isD T (a + 2) e 0 9 = isD T (a + 1 + 1) e 0 9 := rfl
      simp only [if_true]
      rw [ep, ec]
      cases b2 : (sgS T (a + 1) e && isD T (a + 1 + 1) e 0 9)
      · simp only [Bool.false_eq_true, not_false_eq_true, if_true, if_false]
        exact ⟨fun _ => ⟨d1, vp_in_nI (by omega) (by omega), vp_in_nI (by omega) (by omega), fun _ => ⟨s1, fun y => absurd trivial y⟩⟩, trivial, s3, fun y => y.elim⟩
      · simp only [not_true_eq_false, if_false, if_true, not_false_eq_true, true_imp_iff]
        rw [hk9, nI_clamp (by omega)]
        have f12 : Fs [56] μ9 (upI μ9 56 k (μ9.1 49 13)) := Fs.rfl.up (by simp)
        have r12 := s3.fs f12 (by decide)
        have hk12 : (upI μ9 56 k (μ9.1 49 13)).1 49 16 = nI k := by rw [rI, if_neg (by omega)]; exact hk9
        rw [hk12, nI_1]
        refine ⟨fun _ => ⟨d1, vp_in_nI (by omega) (by omega), vp_in_nI (by omega) (by omega), fun _ => ⟨s1, vp_in_nI (by omega) (by omega)⟩⟩, trivial, Rd.up r12 (by decide) _, by rw [rI, if_pos ⟨rfl, rfl⟩], ?_, ?_, fun j hj => ⟨?_, ?_⟩⟩
        · rw [rI, if_neg (by omega), rI, if_neg (by omega), h559, if_pos rfl, hv']
        · rw [rI, if_neg (by omega), rI, if_pos ⟨rfl, rfl⟩]
          simp only [Bool.and_eq_true] at b2
          obtain ⟨c1, c2⟩ := b2
          unfold sgV
          cases ho : wxO [45, 43] T (a + 1) e with
          | none => rw [es, ho] at c1; exact absurd c1 (by decide)
          | some j =>
            rw [s4 j ho c2]
            by_cases z : j = 1
            · subst z; rw [if_pos rfl, if_pos rfl]
            · rw [if_neg z, if_neg (fun y => z (by cases y; rfl))]
        · rw [rI, if_neg (by omega), rI, if_neg (by omega), h559, if_neg (by omega)]
        · rw [rI, if_neg (by omega), rI, if_neg (by omega), h569]
end OM

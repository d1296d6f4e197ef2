/-! the texts; a signed number -/
theorem nar_c : ∀ c, c < 256 → narrow .char (.int (nI c)) = .int (nI c) := by
  intro c hc
  show Value.int _ = Value.int _
  congr 1
  revert c
  decide +kernel
theorem ch_ok : ∀ p, p < 7 → ∀ j, j < strLen.getD p 0 → p_J0_charAt_5068e p (nI j) := by
  intro p hp j hj
  unfold p_J0_charAt_5068e p_J1_charAt_3b067 p_J0_checkIndex_df160 p_J3_checkIndex_8e157 v_J0_isLatin1_aae02 v_J1_charAt_3b067
  have key : ∀ p, p < 7 → ∀ j, j < strLen.getD p 0 → ((Int32.toUInt32 (((strByt.getD p []).getD (Int32.toNatClampNeg (nI j)) 0) &&& 255) % 65536).toInt32) = nI ((strByt.getD p []).getD j 0).toNatClampNeg ∧ ((strByt.getD p []).getD j 0).toNatClampNeg < 256 ∧ strLen.getD p 0 < 20 := by decide +kernel
  obtain ⟨k1, k2, k3⟩ := key p hp j hj
  rw [k1]
  have hn := nar_c _ k2
  refine ⟨fun y => absurd y (by decide), fun _ => ⟨⟨⟨fun y => absurd y (nI_pos (by omega)), fun _ y => y ((nI_ltI (by omega) (by omega)).mpr hj)⟩, vp_in_nI hj (by omega), hn⟩, hn⟩⟩
theorem tx1 : TxW 1 [45, 43] := ⟨by decide +kernel, by decide, fun j hj => ⟨(by decide +kernel : ∀ j, j < 2 → v_J0_charAt_5068e 1 (nI j) = nI ([45, 43].getD j 0)) j hj, ch_ok 1 (by decide) j hj, (by decide : ∀ j, j < 2 → [45, 43].getD j 0 < 256) j hj⟩⟩
theorem tx2 : TxW 2 [119, 101] := ⟨by decide +kernel, by decide, fun j hj => ⟨(by decide +kernel : ∀ j, j < 2 → v_J0_charAt_5068e 2 (nI j) = nI ([119, 101].getD j 0)) j hj, ch_ok 2 (by decide) j hj, (by decide : ∀ j, j < 2 → [119, 101].getD j 0 < 256) j hj⟩⟩
theorem tx6 : TxW 6 [110, 111, 115, 108, 116] := ⟨by decide +kernel, by decide, fun j hj => ⟨(by decide +kernel : ∀ j, j < 5 → v_J0_charAt_5068e 6 (nI j) = nI ([110, 111, 115, 108, 116].getD j 0)) j hj, ch_ok 6 (by decide) j hj, (by decide : ∀ j, j < 5 → [110, 111, 115, 108, 116].getD j 0 < 256) j hj⟩⟩
section RS
variable {T : List Nat} {a e : Nat} {μ : Mm}
theorem Rd.up {k : Nat} (h : Rd T a e μ) (hk : k ≠ 10 ∧ k ≠ 11) (v : Int32) : Rd T a e (upI μ 49 k v) := by
  obtain ⟨h1, h2, h3, h4, h5, h6⟩ := h
  exact ⟨h1, h2, h3, by rw [rI, if_neg (by omega)]; exact h4, by rw [rI, if_neg (by omega)]; exact h5, fun i hi => by rw [rI, if_neg (by omega)]; exact h6 i hi⟩
def dgI (T : List Nat) (i : Nat) : Int32 := nI (chT T i) - 48
theorem dgI_N {T : List Nat} {a e : Nat} (hT : ∀ i, chT T i < 256) (h : isD T a e 0 9 = true) : dgI T a = nI (chT T a - 48) ∧ chT T a - 48 ≤ 9 := by
  unfold isD at h
  simp only [Bool.and_eq_true, decide_eq_true_eq] at h
  have := hT a
  unfold dgI
  rw [show (48 : Int32) = nI 48 from rfl, nI_sub (by omega)]
  exact ⟨rfl, by omega⟩
theorem R_signed {p : Nat} {W : List Nat} (hW : TxW p W) (h : Rd T a e μ) (hT : ∀ i, chT T i < 256) : p_X12_readsSigned p μ ∧ v_X12_readsSigned p μ = (if (wxO W T a e).isSome && isD T (a + 1) e 0 9 then 1 else 0) ∧ Rd T (if (wxO W T a e).isSome then (if isD T (a + 1) e 0 9 then a + 2 else a + 1) else a) e (e_X12_readsSigned p μ) ∧ (∀ j, wxO W T a e = some j → isD T (a + 1) e 0 9 = true → (e_X12_readsSigned p μ).1 49 13 = if j = 1 then dgI T (a + 1) else -dgI T (a + 1)) := by
  obtain ⟨a1, a2, a3⟩ := R_takesOf hW h hT
  have hWl := hW.2.1
  unfold p_X12_readsSigned v_X12_readsSigned e_X12_readsSigned
  simp only [forall_eq]
  rw [a2]
  generalize e_X12_takesOf p μ = μ2 at a3 ⊢
  cases ho : wxO W T a e with
  | none =>
    have e0 : wxI none = -1 := rfl
    rw [ho] at a3
    have g : ¬ ((0 : Int32) ≤ -1) := by decide
    rw [e0, if_neg g, if_neg g]
    refine ⟨⟨a1, fun y => absurd y g⟩, rfl, Rd.up a3 (by decide) _, fun j hj => by cases hj⟩
  | some j =>
    rw [ho] at a3
    have hj : j < W.length := by
      unfold wxO at ho
      by_cases z : a < e
      · rw [if_pos z] at ho
        have := (ff_rg ho).2; omega
      · rw [if_neg z] at ho; cases ho
    have a3' : Rd T (a + 1) e μ2 := a3
    obtain ⟨b1, b2, b3⟩ := R_number1 a3' hT
    have e0 : wxI (some j) = nI j := rfl
    have g : (0 : Int32) ≤ nI j := by rw [fa_le, t0, nI_toInt (by omega)]; omega
    have g1 : (nI j = 1) ↔ j = 1 := nI_eq (b := 1) (by omega) (by omega)
    rw [e0, if_pos g, if_pos g, b2]
    simp only [g1]
    cases q : isD T (a + 1) e 0 9
    · rw [q] at b3
      have gm : (-1 : Int32) < 0 := by decide
      simp only [Bool.false_eq_true, if_false, Option.isSome_some, Bool.true_and, if_true]
      rw [if_pos gm]
      exact ⟨⟨a1, fun _ => b1⟩, rfl, Rd.up b3 (by decide) _, fun _ _ y => y.elim⟩
    · rw [q] at b3
      obtain ⟨d1, d2⟩ := dgI_N hT q
      change nI (chT T (a + 1)) - 48 = _ at d1
      simp only [if_true, Option.isSome_some, Bool.true_and]
      have gp : ¬ (nI (chT T (a + 1)) - 48 < 0) := by rw [d1]; exact nI_pos (by omega)
      rw [if_neg gp]
      refine ⟨⟨a1, fun _ => b1⟩, rfl, Rd.up b3 (by decide) _, fun j' hj' _ => ?_⟩
      cases hj'
      rw [rI, if_pos ⟨rfl, rfl⟩]; rfl
end RS

/-! the model reads a rule: things -/
theorem tx0 : TxW 0 thW := ⟨by decide +kernel, by decide, fun j hj => ⟨(by decide +kernel : ∀ j, j < 7 → v_J0_charAt_5068e 0 (nI j) = nI (thW.getD j 0)) j hj, ch_ok 0 (by decide) j hj, (by decide : ∀ j, j < 7 → thW.getD j 0 < 256) j hj⟩⟩
theorem tx3 : TxW 3 [60, 62, 61] := ⟨by decide +kernel, by decide, fun j hj => ⟨(by decide +kernel : ∀ j, j < 3 → v_J0_charAt_5068e 3 (nI j) = nI ([60, 62, 61].getD j 0)) j hj, ch_ok 3 (by decide) j hj, (by decide : ∀ j, j < 3 → [60, 62, 61].getD j 0 < 256) j hj⟩⟩
theorem tx4 : TxW 4 [43, 45] := ⟨by decide +kernel, by decide, fun j hj => ⟨(by decide +kernel : ∀ j, j < 2 → v_J0_charAt_5068e 4 (nI j) = nI ([43, 45].getD j 0)) j hj, ch_ok 4 (by decide) j hj, (by decide : ∀ j, j < 2 → [43, 45].getD j 0 < 256) j hj⟩⟩
theorem tx5 : TxW 5 [42, 47] := ⟨by decide +kernel, by decide, fun j hj => ⟨(by decide +kernel : ∀ j, j < 2 → v_J0_charAt_5068e 5 (nI j) = nI ([42, 47].getD j 0)) j hj, ch_ok 5 (by decide) j hj, (by decide : ∀ j, j < 2 → [42, 47].getD j 0 < 256) j hj⟩⟩
/-- the codes that the model has read -/
def LsM (L : List Nat) (μ : Mm) : Prop := μ.1 49 20 = nI L.length ∧ ∀ i, i < L.length → μ.1 58 i = nI (L.getD i 0)
def rdF : List Nat := [58, 1010, 1012, 1020]
theorem LsM.fs {L S : List Nat} {μ μ' : Mm} (h : LsM L μ) (f : Fs S μ μ') (hb : 49 ∉ S ∧ 58 ∉ S ∧ 1020 ∉ S) : LsM L μ' := by
  unfold LsM
  rw [f.1 49 20 hb.1 (.inr hb.2.2)]
  simp only [f.1 58 _ hb.2.1 (.inl (by decide))]
  exact h
theorem getD_snoc {L : List Nat} {x i : Nat} (hi : i < L.length + 1) : (L ++ [x]).getD i 0 = if i = L.length then x else L.getD i 0 := by
  by_cases e : i = L.length
  · subst e; simp [List.getD]
  · rw [if_neg e]
    simp [List.getD, List.getElem?_append, show i < L.length by omega]
theorem M_codes {L : List Nat} {x : Nat} {μ : Mm} (h : LsM L μ) (hl : L.length < 80) : p_X12_codes (nI x) μ ∧ LsM (L ++ [x]) (e_X12_codes (nI x) μ) := by
  obtain ⟨h1, h2⟩ := h
  unfold p_X12_codes e_X12_codes
  dsimp only
  rw [h1, nI_clamp (by omega)]
  refine ⟨vp_in_nI hl (by omega), ?_, fun i hi => ?_⟩
  · rw [rI, if_pos ⟨rfl, rfl⟩, rI, if_neg (by omega), h1, nI_1, List.length_append]; rfl
  · rw [List.length_append] at hi
    have hi' : i < L.length + 1 := hi
    rw [rI, if_neg (by omega), rI, getD_snoc hi']
    by_cases e : i = L.length
    · rw [if_pos ⟨rfl, e⟩, if_pos e]
    · rw [if_neg (fun y => e y.2), if_neg e]; exact h2 i (by omega)
theorem M_cnt {x : Int32} {m : Nat} {μ : Mm} (h : μ.1 49 20 = nI m) (hl : m < 80) : p_X12_codes x μ ∧ (e_X12_codes x μ).1 49 20 = nI (m + 1) := by
  unfold p_X12_codes e_X12_codes
  dsimp only
  refine ⟨by rw [h]; exact vp_in_nI hl (by omega), ?_⟩
  rw [rI, if_pos ⟨rfl, rfl⟩, rI, if_neg (by omega), h, nI_1]
section NU
variable {T : List Nat} {a e : Nat} {μ : Mm} {o k : List Nat} {d : Nat} {c : Nat → Bool}
theorem stp_d0 {x : Nat} (hx : 48 ≤ x ∧ x ≤ 57) : stpS (o, k, true, d, c, 0) x = some (o ++ [x - 48], k, false, d, c, 1) := by
  unfold stpS stp
  dsimp only
  rw [if_pos rfl, if_neg (by omega), if_neg (by omega), if_pos hx]
theorem stp_d1 {x v g : Nat} (hx : 48 ≤ x ∧ x ≤ 57) (hg : 1 ≤ g ∧ g < 3) : stpS (o ++ [v], k, false, d, c, g) x = some (o ++ [10 * v + (x - 48)], k, false, d, c, g + 1) := by
  unfold stpS stp
  dsimp only
  rw [if_neg (by decide), if_pos hx, if_pos hg]
  simp
theorem R_number3 (h : Rd T a e μ) (hT : ∀ i, chT T i < 256) (hd : isD T a e 0 9 = true) : p_X12_number 3 μ ∧ ∃ m v, 1 ≤ m ∧ m ≤ 3 ∧ v_X12_number 3 μ = nI v ∧ Rd T (a + m) e (e_X12_number 3 μ) ∧ Rn T a (o, k, true, d, c, 0) (a + m) (o ++ [v], k, false, d, c, m) ∧ (isD T (a + m) e 0 9 = true → m = 3) := by
  obtain ⟨d1, d2⟩ := R_isDigit h hT
  unfold p_X12_number v_X12_number e_X12_number
  rw [d2, hd]
  have o1 : ¬ ((1 : Int32) = 0) := by decide
  simp only [if_true, o1, if_false, not_false_eq_true, true_imp_iff]
  have p10 : ∀ i, 1 ≤ i → i ≤ 3 → 10 * 10 ^ (i - 1) = 10 ^ i := by
    intro i h1 h2
    have : i = 1 ∨ i = 2 ∨ i = 3 := by omega
    rcases this with rfl | rfl | rfl <;> rfl
  have key := lpI (f := fun s : Int32 × Int32 × Int32 × Mm => bd_X12_number_13 s.1 s.2.1 s.2.2.1 s.2.2.2) (sd := fun s : Int32 × Int32 × Int32 × Mm => sd_X12_number_13 s.1 s.2.1 s.2.2.1 s.2.2.2) (dd := fun s : Int32 × Int32 × Int32 × Mm => (0, s.2.2.2)) (I := fun i s => (i = 0 ∧ s = (3, 0, 0, μ)) ∨ (1 ≤ i ∧ i ≤ 3 ∧ ∃ v μ', s = (3, nI v, nI i, μ') ∧ v < 10 ^ i ∧ Rd T (a + i) e μ' ∧ Rn T a (o, k, true, d, c, 0) (a + i) (o ++ [v], k, false, d, c, i)))
    (R := fun z : Int32 × Mm => ∃ m v, 1 ≤ m ∧ m ≤ 3 ∧ z.1 = nI v ∧ Rd T (a + m) e z.2 ∧ Rn T a (o, k, true, d, c, 0) (a + m) (o ++ [v], k, false, d, c, m) ∧ (isD T (a + m) e 0 9 = true → m = 3)) 3 (by omega) ?_ (s0 := (3, 0, 0, μ)) (.inl ⟨rfl, rfl⟩)
  · exact ⟨⟨d1, key.1⟩, key.2⟩
  · rintro i _ hi (⟨rfl, rfl⟩ | ⟨h1, h3, v, μ', rfl, hv, hr, hrn⟩)
    · have hz := isD_t hd
      have hdd : 48 ≤ chT T a ∧ chT T a ≤ 57 := of_decide_eq_true hz.2
      obtain ⟨c1, c2⟩ := h.ch hz.1
      dsimp only
      unfold sd_X12_number_13 bd_X12_number_13
      rw [if_neg (show ¬ ((3 : Int32) ≤ 0) by decide), d2, c1, hd, if_pos rfl, if_neg o1]
      have ev : (10 : Int32) * 0 + nI (chT T a) - 48 = nI (chT T a - 48) := by
        rw [show (10 : Int32) * 0 = 0 from by decide, Int32.zero_add, show (48 : Int32) = nI 48 from rfl, nI_sub (by omega)]
      rw [ev]
      refine ⟨fun _ => ⟨d1, fun _ => c2⟩, .inl ⟨_, rfl, by omega, .inr ⟨by omega, by omega, _, _, rfl, by omega, ?_, ?_⟩⟩⟩
      · rw [h.2.2.2.1, nI_1]; exact h.adv hz.1
      · exact Rn.st (stp_d0 hdd)
    · obtain ⟨d1', d2'⟩ := R_isDigit hr hT
      dsimp only
      unfold sd_X12_number_13 bd_X12_number_13
      have g3 : ((3 : Int32) ≤ nI i) ↔ 3 ≤ i := nI_leI (a := 3) (by omega) (by omega)
      rw [d2']
      simp only [g3, nI_1]
      by_cases y : 3 ≤ i
      · rw [if_pos y]
        exact ⟨fun w => absurd y w, .inr ⟨_, rfl, i, v, h1, h3, rfl, hr, hrn, fun _ => by omega⟩⟩
      · rw [if_neg y]
        cases hd' : isD T (a + i) e 0 9
        · simp only [Bool.false_eq_true, if_false, if_true]
          exact ⟨fun _ => ⟨d1', fun w => absurd trivial w⟩, .inr ⟨_, rfl, i, v, h1, h3, rfl, hr, hrn, fun w => by rw [hd'] at w; cases w⟩⟩
        · have hz := isD_t hd'
          have hdd : 48 ≤ chT T (a + i) ∧ chT T (a + i) ≤ 57 := of_decide_eq_true hz.2
          obtain ⟨c1, c2⟩ := hr.ch hz.1
          simp only [if_true, o1, if_false]
          have ev : (10 : Int32) * nI v + nI (chT T (a + i)) - 48 = nI (10 * v + (chT T (a + i) - 48)) := by
            rw [show (10 : Int32) = nI 10 from rfl, nI_mul, nI_add, show (48 : Int32) = nI 48 from rfl, nI_sub (by omega)]
            congr 1; omega
          rw [c1, ev]
          refine ⟨fun _ => ⟨d1', fun _ => c2⟩, .inl ⟨_, rfl, by omega, .inr ⟨by omega, by omega, _, _, rfl, ?_, ?_, ?_⟩⟩⟩
          · have := p10 (i + 1) (by omega) (by omega)
            rw [Nat.add_sub_cancel] at this
            omega
          · rw [hr.2.2.2.1, nI_1]; exact hr.adv hz.1
          · exact hrn.tr (Rn.st (stp_d1 hdd ⟨h1, by omega⟩))
end NU
/-! what comes of reading -/
def SuG (T : List Nat) (e a : Nat) (o k : List Nat) (d : Nat) (c : Nat → Bool) (lo hi : Nat) (ex kp : Prop) (μ' : Mm) : Prop := ∃ b o' P c' g', Rd T b e μ' ∧ μ'.1 49 12 = nI d ∧ LsM (o' ++ P.map cdO) μ' ∧ a < b ∧ Rn T a (o, k, true, d, c, 0) b (o', P ++ k, false, d, c', g') ∧ (∀ x, x ∈ P → lo ≤ rkO x) ∧ (∀ i, i < d → c' i = c i) ∧ (kp → c' d = c d) ∧ (b < e → (48 ≤ chT T b ∧ chT T b ≤ 57 → g' = 0 ∨ g' = 3) ∧ (hi ≤ brk (chT T b) → ex ∧ brk (chT T b) = 1 ∧ c' d = true))
def FaG (T : List Nat) (e a : Nat) (o k : List Nat) (d : Nat) (c : Nat → Bool) (μ' : Mm) : Prop := ∃ b S m, Rd T b e μ' ∧ μ'.1 49 20 = nI m ∧ m + k.length ≤ b ∧ Rn T a (o, k, true, d, c, 0) b S ∧ (b < e → stpS S (chT T b) = none) ∧ (b = e → S.2.2.1 = true ∨ 0 < S.2.2.2.1)
def Rdg (T : List Nat) (e a : Nat) (o k : List Nat) (d : Nat) (c : Nat → Bool) (q : Nat) (v : Int32) (μ μ' : Mm) : Prop := Fs rdF μ μ' ∧ ((v = 1 ∧ SuG T e a o k d c (q + 1) (q + 1) (q = 0) (1 ≤ q) μ') ∨ (v = 0 ∧ FaG T e a o k d c μ'))
/-- where reading begins -/
def Prc (T : List Nat) (e a : Nat) (o k : List Nat) (d : Nat) (μ : Mm) : Prop := Rd T a e μ ∧ μ.1 49 12 = nI d ∧ d ≤ 4 ∧ LsM o μ ∧ o.length + k.length ≤ a ∧ e ≤ 40
def ThG (T : List Nat) (e n : Nat) : Prop := ∀ a o k d c μ, Prc T e a o k d μ → (e - a) + 5 * (4 - d) + 1 ≤ n → (rdFP n).2 none μ ∧ Rdg T e a o k d c 3 ((rdFP n).1 none μ).1 μ ((rdFP n).1 none μ).2
def RkG (T : List Nat) (e n : Nat) : Prop := ∀ q a o k d c μ, q ≤ 3 → Prc T e a o k d μ → (q ≤ 2 → rkO (k.headD 40) < q + 1) → (q = 0 → c d = false) → (e - a) + 5 * (4 - d) + 1 + (4 - q) ≤ n → (rdFP n).2 (some (nI q)) μ ∧ Rdg T e a o k d c q ((rdFP n).1 (some (nI q)) μ).1 μ ((rdFP n).1 (some (nI q)) μ).2

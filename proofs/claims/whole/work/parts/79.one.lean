/-! one and row: the methods that throw -/
noncomputable def v_X11_one (p0 p1 : Int32) (μ : Mm) : Int32 := if p1 = 0 then μ.1 2 p0.toNatClampNeg else if p1 = 1 then μ.1 3 p0.toNatClampNeg else if p1 = 2 then μ.1 4 p0.toNatClampNeg else if p1 = 3 then μ.1 5 p0.toNatClampNeg else if p1 = 4 then (if v_X1_isOff 1 p0 μ = 0 then 0 else 1) else v_X1_wayOf 1 p0 15 (v_X1_moment 1 μ) μ
noncomputable def e_X11_one (p0 p1 : Int32) (μ : Mm) : Mm := if p1 = 0 then μ else if p1 = 1 then μ else if p1 = 2 then μ else if p1 = 3 then μ else if p1 = 4 then μ else e_X1_wayOf 1 p0 15 (v_X1_moment 1 μ) μ
def oneT (p0 p1 : Int32) (μ : Mm) : Prop := v_X1_has 1 p0 μ = 0 ∨ p1.toInt < 0 ∨ 5 < p1.toInt
def p_X11_one (p0 p1 : Int32) (μ : Mm) : Prop := vp_in p0 7 ∧ p_X1_moment 1 μ ∧ p_X1_wayOf 1 p0 15 (v_X1_moment 1 μ) μ
theorem con_X11_one {E : Ex} {Q : Option Value → Mm → Prop} {p0 p1 : Int32} {μ : Mm} {X : Prop} (tx : oneT p0 p1 μ → X) (t : ¬ oneT p0 p1 μ → p_X11_one p0 p1 μ) (k : ¬ oneT p0 p1 μ → Q (some (.int (v_X11_one p0 p1 μ))) (e_X11_one p0 p1 μ)) : ConX E 8 mX11_one [rf E 0, .int p0, .int p1] μ Q X := by
  refine ConX_J (by decide +kernel) (Nat.le_of_ble_eq_true rfl) (fun G hG => ?_)
  refine J_sub (ls' := [(0, rf E 0), (1, .int p0), (2, .int p1)]) [0, 1, 2] rfl ?_
  refine J_aload_n (dk okX11_one 0 rfl) 0 rfl rfl ?_
  refine J_getR (dk okX11_one 1 rfl) kfX11_12 ds_0 rfl ?_
  refine J_iload_n (dk okX11_one 2 rfl) 1 rfl rfl ?_
  refine J_callVi (As := [.int p0]) (dk okX11_one 3 rfl) ds_1 rfl vkX1_has lkX11_138 rfl rfl (Nat.le_of_ble_eq_true rfl) (by decide) (con_X1_has FloorAt_1 ⟨_, rfl, ?_⟩)
  refine J_if_ne (tgt := 21) (dk okX11_one 4 rfl) (by decide) (fun h1 => ?_) (fun h1 => ?_)
  · refine J_iload_n (dk okX11_one 10 rfl) 2 rfl rfl ?_
    by_cases q : p1.toInt < 0 ∨ 5 < p1.toInt
    · refine J_tableOut (dk okX11_one 11 rfl) q (tgt := 137) (by decide) ?_
      exact J_throwS (pc := 137) hG (tx (.inr q)) rfl (by omega) (by decide) (dk okX11_one 55 rfl) (dk okX11_one 56 rfl) (dk okX11_one 57 rfl) (dk okX11_one 58 rfl) (dk okX11_one 59 rfl) (text := "another what") (sa := 8) (by decide)
    · have hn : ¬ oneT p0 p1 μ := fun y => y.elim h1 q
      obtain ⟨t1, t2, t3⟩ := t hn
      have k := k hn
      unfold v_X11_one e_X11_one at k
      by_cases h0 : p1 = 0
      · rw [if_pos h0, if_pos h0] at k
        refine J_at h0 (J_tableIn (x := 0) (off := 38) (tgt := 60) (dk okX11_one 11 rfl) (by decide) (by decide) (by decide) (by decide) ?_)
        refine J_aload_n (dk okX11_one 12 rfl) 0 rfl rfl ?_
        refine J_getR (dk okX11_one 13 rfl) kfX11_12 ds_0 rfl ?_
        refine J_getR (dk okX11_one 14 rfl) kfX11_148 ds_1 rfl ?_
        refine J_iload_n (dk okX11_one 15 rfl) 1 rfl rfl ?_
        refine J_iald (dk okX11_one 16 rfl) ds_2 t1 ?_
        exact J_iret (dk okX11_one 17 rfl) rfl k
      · rw [if_neg h0, if_neg h0] at k
        by_cases h2 : p1 = 1
        · rw [if_pos h2, if_pos h2] at k
          refine J_at h2 (J_tableIn (x := 1) (off := 48) (tgt := 70) (dk okX11_one 11 rfl) (by decide) (by decide) (by decide) (by decide) ?_)
          refine J_aload_n (dk okX11_one 18 rfl) 0 rfl rfl ?_
          refine J_getR (dk okX11_one 19 rfl) kfX11_12 ds_0 rfl ?_
          refine J_getR (dk okX11_one 20 rfl) kfX11_151 ds_1 rfl ?_
          refine J_iload_n (dk okX11_one 21 rfl) 1 rfl rfl ?_
          refine J_iald (dk okX11_one 22 rfl) ds_3 t1 ?_
          exact J_iret (dk okX11_one 23 rfl) rfl k
        · rw [if_neg h2, if_neg h2] at k
          by_cases h3 : p1 = 2
          · rw [if_pos h3, if_pos h3] at k
            refine J_at h3 (J_tableIn (x := 2) (off := 58) (tgt := 80) (dk okX11_one 11 rfl) (by decide) (by decide) (by decide) (by decide) ?_)
            refine J_aload_n (dk okX11_one 24 rfl) 0 rfl rfl ?_
            refine J_getR (dk okX11_one 25 rfl) kfX11_12 ds_0 rfl ?_
            refine J_getR (dk okX11_one 26 rfl) kfX11_154 ds_1 rfl ?_
            refine J_iload_n (dk okX11_one 27 rfl) 1 rfl rfl ?_
            refine J_iald (dk okX11_one 28 rfl) ds_4 t1 ?_
            exact J_iret (dk okX11_one 29 rfl) rfl k
          · rw [if_neg h3, if_neg h3] at k
            by_cases h4 : p1 = 3
            · rw [if_pos h4, if_pos h4] at k
              refine J_at h4 (J_tableIn (x := 3) (off := 68) (tgt := 90) (dk okX11_one 11 rfl) (by decide) (by decide) (by decide) (by decide) ?_)
              refine J_aload_n (dk okX11_one 30 rfl) 0 rfl rfl ?_
              refine J_getR (dk okX11_one 31 rfl) kfX11_12 ds_0 rfl ?_
              refine J_getR (dk okX11_one 32 rfl) kfX11_157 ds_1 rfl ?_
              refine J_iload_n (dk okX11_one 33 rfl) 1 rfl rfl ?_
              refine J_iald (dk okX11_one 34 rfl) ds_5 t1 ?_
              exact J_iret (dk okX11_one 35 rfl) rfl k
            · rw [if_neg h4, if_neg h4] at k
              by_cases h5 : p1 = 4
              · rw [if_pos h5, if_pos h5] at k
                refine J_at h5 (J_tableIn (x := 4) (off := 78) (tgt := 100) (dk okX11_one 11 rfl) (by decide) (by decide) (by decide) (by decide) ?_)
                refine J_aload_n (dk okX11_one 36 rfl) 0 rfl rfl ?_
                refine J_getR (dk okX11_one 37 rfl) kfX11_12 ds_0 rfl ?_
                refine J_iload_n (dk okX11_one 38 rfl) 1 rfl rfl ?_
                refine J_callVi (As := [.int p0]) (dk okX11_one 39 rfl) ds_1 rfl vkX1_isOff lkX11_160 rfl rfl (Nat.le_of_ble_eq_true rfl) (by decide) (con_X1_isOff FloorAt_1 ⟨_, rfl, ?_⟩)
                refine J_if_eq (tgt := 115) (dk okX11_one 40 rfl) (by decide) (fun h6 => ?_) (fun h6 => ?_)
                · rw [if_pos h6] at k
                  refine J_iconst (v := 0) (dk okX11_one 43 rfl) (by decide) ?_
                  exact J_iret (dk okX11_one 44 rfl) rfl k
                · rw [if_neg h6] at k
                  refine J_iconst (v := 1) (dk okX11_one 41 rfl) (by decide) ?_
                  refine J_goto (tgt := 116) (dk okX11_one 42 rfl) (by decide) ?_
                  exact J_iret (dk okX11_one 44 rfl) rfl k
              · rw [if_neg h5, if_neg h5] at k
                have h6 : p1 = 5 := by
                  have n0 : p1.toInt ≠ 0 := fun y => h0 (by rw [fa_eq]; exact y)
                  have n1 : p1.toInt ≠ 1 := fun y => h2 (by rw [fa_eq]; exact y)
                  have n2 : p1.toInt ≠ 2 := fun y => h3 (by rw [fa_eq]; exact y)
                  have n3 : p1.toInt ≠ 3 := fun y => h4 (by rw [fa_eq]; exact y)
                  have n4 : p1.toInt ≠ 4 := fun y => h5 (by rw [fa_eq]; exact y)
                  rw [fa_eq, show (5 : Int32).toInt = 5 by decide +kernel]
                  omega
                refine J_at h6 (J_tableIn (x := 5) (off := 95) (tgt := 117) (dk okX11_one 11 rfl) (by decide) (by decide) (by decide) (by decide) ?_)
                refine J_aload_n (dk okX11_one 45 rfl) 0 rfl rfl ?_
                refine J_getR (dk okX11_one 46 rfl) kfX11_12 ds_0 rfl ?_
                refine J_iload_n (dk okX11_one 47 rfl) 1 rfl rfl ?_
                refine J_aload_n (dk okX11_one 48 rfl) 0 rfl rfl ?_
                refine J_getR (dk okX11_one 49 rfl) kfX11_22 ds_0 rfl ?_
                refine J_aload_n (dk okX11_one 50 rfl) 0 rfl rfl ?_
                refine J_getR (dk okX11_one 51 rfl) kfX11_12 ds_0 rfl ?_
                refine J_callVi (As := []) (dk okX11_one 52 rfl) ds_1 rfl vkX1_moment lkX11_163 rfl rfl (Nat.le_of_ble_eq_true rfl) (by decide) (con_X1_moment FloorAt_1 t2 ⟨_, rfl, ?_⟩)
                refine J_callVi (As := [.int p0, rf E 15, .int (v_X1_moment 1 μ)]) (dk okX11_one 53 rfl) ds_1 rfl vkX1_wayOf lkX11_167 rfl rfl (Nat.le_of_ble_eq_true rfl) (by decide) (con_X1_wayOf FloorAt_1 RuleAt_15 t3 ⟨_, rfl, ?_⟩)
                exact J_iret (dk okX11_one 54 rfl) rfl k
  · exact J_throwS (pc := 11) hG (tx (.inl h1)) rfl (by omega) (by decide) (dk okX11_one 5 rfl) (dk okX11_one 6 rfl) (dk okX11_one 7 rfl) (dk okX11_one 8 rfl) (dk okX11_one 9 rfl) (text := "none such") (sa := 7) (by decide)
def rowT (p0 : Int32) (μ : Mm) : Prop := p0 < 0 ∨ ¬ p0 < μ.1 27 1
theorem con_X11_row {E : Ex} {Q : Option Value → Mm → Prop} {p0 : Int32} {μ : Mm} {X : Prop} (tx : rowT p0 μ → X) (t : ¬ rowT p0 μ → vp_in p0 16) (k : ¬ rowT p0 μ → Q (some (.long (μ.2 28 p0.toNatClampNeg))) μ) : ConX E 8 mX11_row [rf E 0, .int p0] μ Q X := by
  refine ConX_J (by decide +kernel) (Nat.le_of_ble_eq_true rfl) (fun G hG => ?_)
  refine J_sub (ls' := [(0, rf E 0), (1, .int p0)]) [0, 1] rfl ?_
  refine J_iload_n (dk okX11_row 0 rfl) 1 rfl rfl ?_
  refine J_if_lt (tgt := 15) (dk okX11_row 1 rfl) (by decide) (fun h1 => ?_) (fun h1 => ?_)
  · exact J_throwS (pc := 15) hG (tx (.inl h1)) rfl (by omega) (by decide) (dk okX11_row 7 rfl) (dk okX11_row 8 rfl) (dk okX11_row 9 rfl) (dk okX11_row 10 rfl) (dk okX11_row 11 rfl) (text := "none such") (sa := 7) (by decide)
  · refine J_iload_n (dk okX11_row 2 rfl) 1 rfl rfl ?_
    refine J_aload_n (dk okX11_row 3 rfl) 0 rfl rfl ?_
    refine J_getR (dk okX11_row 4 rfl) kfX11_39 ds_0 rfl ?_
    refine J_getI (dk okX11_row 5 rfl) kfX11_328 ds_27 rfl ?_
    refine J_icmp_lt (tgt := 25) (dk okX11_row 6 rfl) (by decide) (fun h2 => ?_) (fun h2 => ?_)
    · have hn : ¬ rowT p0 μ := fun y => y.elim h1 (fun z => z h2)
      refine J_aload_n (dk okX11_row 12 rfl) 0 rfl rfl ?_
      refine J_getR (dk okX11_row 13 rfl) kfX11_39 ds_0 rfl ?_
      refine J_getR (dk okX11_row 14 rfl) kfX11_406 ds_27 rfl ?_
      refine J_iload_n (dk okX11_row 15 rfl) 1 rfl rfl ?_
      refine J_lald (dk okX11_row 16 rfl) ds_28 (t hn) ?_
      exact J_lret (dk okX11_row 17 rfl) rfl (k hn)
    · exact J_throwS (pc := 15) hG (tx (.inr h2)) rfl (by omega) (by decide) (dk okX11_row 7 rfl) (dk okX11_row 8 rfl) (dk okX11_row 9 rfl) (dk okX11_row 10 rfl) (dk okX11_row 11 rfl) (text := "none such") (sa := 7) (by decide)

/-- VotingFloorModel.goesToNoon()V -/
noncomputable def e_X12_goesToNoon  (μ : Mm) : Mm := (let μ2 : Mm := (e_X12_copies  μ); (let μ4 : Mm := (e_X12_goesOn 53 (if 0 < ((μ2.1 53 (Int32.toNatClampNeg 23)) - (μ2.1 53 (Int32.toNatClampNeg 22))) then ((μ2.1 53 (Int32.toNatClampNeg 23)) - (μ2.1 53 (Int32.toNatClampNeg 22))) else 0) μ2); μ4))
def p_X12_goesToNoon   (μ : Mm) : Prop := (p_X12_copies μ) ∧ (∀ μ2 : Mm, μ2 = (e_X12_copies  μ) → p_X12_goesOn 53 (if 0 < ((μ2.1 53 (Int32.toNatClampNeg 23)) - (μ2.1 53 (Int32.toNatClampNeg 22))) then ((μ2.1 53 (Int32.toNatClampNeg 23)) - (μ2.1 53 (Int32.toNatClampNeg 22))) else 0) μ2)
set_option maxRecDepth 20000 in
set_option maxHeartbeats 4000000 in
theorem con_X12_goesToNoon {E : Ex} {Q : Option Value → Mm → Prop} {μ : Mm} (t : p_X12_goesToNoon   μ) (k : Q none (e_X12_goesToNoon  μ)) : Con E 7 mX12_goesToNoon [rf E 49] μ Q := by
  refine Con_J (by decide +kernel) (Nat.le_of_ble_eq_true rfl) (fun G => ?_)
  unfold e_X12_goesToNoon at k
  unfold p_X12_goesToNoon at t
  refine J_sub (ls' := [(0, rf E 49)]) [0] rfl ?_
  refine J_aload_n (dk okX12_goesToNoon 0 rfl) 0 rfl rfl ?_
  obtain ⟨s1, t⟩ := t
  refine J_callVv (As := []) (dk okX12_goesToNoon 1 rfl) ds_49 rfl vkX12_copies lkX12_346 rfl rfl (Nat.le_of_ble_eq_true rfl) (by decide) (con_X12_copies s1 ⟨rfl, ?_⟩)
  refine J_nm (fun μ2 eμ2 => ?_)
  have t := t μ2 eμ2
  refine J_aload_n (dk okX12_goesToNoon 2 rfl) 0 rfl rfl ?_
  refine J_aload_n (dk okX12_goesToNoon 3 rfl) 0 rfl rfl ?_
  refine J_getR (dk okX12_goesToNoon 4 rfl) kfX12_35 ds_49 rfl ?_
  refine J_iconst (v := 0) (dk okX12_goesToNoon 5 rfl) (by decide) ?_
  refine J_aload_n (dk okX12_goesToNoon 6 rfl) 0 rfl rfl ?_
  refine J_getR (dk okX12_goesToNoon 7 rfl) kfX12_35 ds_49 rfl ?_
  refine J_bipush (v := 23) (dk okX12_goesToNoon 8 rfl) (by decide) ?_
  refine J_iald (dk okX12_goesToNoon 9 rfl) ds_53 (by unfold vp_in; decide) ?_
  refine J_aload_n (dk okX12_goesToNoon 10 rfl) 0 rfl rfl ?_
  refine J_getR (dk okX12_goesToNoon 11 rfl) kfX12_35 ds_49 rfl ?_
  refine J_bipush (v := 22) (dk okX12_goesToNoon 12 rfl) (by decide) ?_
  refine J_iald (dk okX12_goesToNoon 13 rfl) ds_53 (by unfold vp_in; decide) ?_
  refine J_isub (dk okX12_goesToNoon 14 rfl) ?_
  refine J_mmax (dk okX12_goesToNoon 15 rfl) lkX12_284 mk_max_s mk_Math mk_max_c (by decide) (Nat.le_of_ble_eq_true rfl) ?_
  have s3 := t
  refine J_callVi (As := [rf E 53, .int (if 0 < ((μ2.1 53 (Int32.toNatClampNeg 23)) - (μ2.1 53 (Int32.toNatClampNeg 22))) then ((μ2.1 53 (Int32.toNatClampNeg 23)) - (μ2.1 53 (Int32.toNatClampNeg 22))) else 0)]) (dk okX12_goesToNoon 16 rfl) ds_49 rfl vkX12_goesOn lkX12_309 rfl rfl (Nat.le_of_ble_eq_true rfl) (by decide) (con_X12_goesOn ds_53 s3 ⟨_, rfl, ?_⟩)
  refine J_nm (fun μ4 eμ4 => ?_)
  refine J_pop (dk okX12_goesToNoon 17 rfl) rfl ?_
  subst eμ4 eμ2
  exact J_vret (dk okX12_goesToNoon 18 rfl) rfl k
/-- VotingFloorModel.later(II)I -/
noncomputable def v_X12_later (p0 : Int32) (p1 : Int32) (μ : Mm) : Int32 := (let μ1 : Mm := (upI μ 49 0 0); (if (v_X12_isOne p0 μ1) = 0 then (-1) else (if (v_X12_in (Int32.toInt64 p1) 0 60 μ1) = 0 then (-1) else (let μ5 : Mm := (e_X12_copies  μ1); (let μ7 : Mm := (e_X12_goesOn 53 p1 μ5); (let μ8 : Mm := (upI μ7 49 1 0); (let μ10 : Mm := (e_X12_moment 53 μ8); (let μ12 : Mm := (e_X12_enters (Int32.toInt64 (2000 + (v_X12_moment 53 μ8))) μ10); (100 + (μ12.1 53 (Int32.toNatClampNeg (7 + p0))))))))))))
noncomputable def e_X12_later (p0 : Int32) (p1 : Int32) (μ : Mm) : Mm := (let μ1 : Mm := (upI μ 49 0 0); (if (v_X12_isOne p0 μ1) = 0 then μ1 else (if (v_X12_in (Int32.toInt64 p1) 0 60 μ1) = 0 then μ1 else (let μ5 : Mm := (e_X12_copies  μ1); (let μ7 : Mm := (e_X12_goesOn 53 p1 μ5); (let μ8 : Mm := (upI μ7 49 1 0); (let μ10 : Mm := (e_X12_moment 53 μ8); (let μ12 : Mm := (e_X12_enters (Int32.toInt64 (2000 + (v_X12_moment 53 μ8))) μ10); μ12))))))))
def p_X12_later (p0 : Int32) (p1 : Int32)  (μ : Mm) : Prop := (∀ μ1 : Mm, μ1 = (upI μ 49 0 0) → (¬ ((v_X12_isOne p0 μ1) = 0) → (¬ ((v_X12_in (Int32.toInt64 p1) 0 60 μ1) = 0) → (p_X12_copies μ1) ∧ (∀ μ5 : Mm, μ5 = (e_X12_copies  μ1) → (p_X12_goesOn 53 p1 μ5) ∧ (∀ μ7 : Mm, μ7 = (e_X12_goesOn 53 p1 μ5) → (∀ μ8 : Mm, μ8 = (upI μ7 49 1 0) → (p_X12_moment 53 μ8) ∧ (∀ μ10 : Mm, μ10 = (e_X12_moment 53 μ8) → (p_X12_enters (Int32.toInt64 (2000 + (v_X12_moment 53 μ8))) μ10) ∧ (∀ μ12 : Mm, μ12 = (e_X12_enters (Int32.toInt64 (2000 + (v_X12_moment 53 μ8))) μ10) → vp_in (7 + p0) 24))))))))
set_option maxRecDepth 20000 in
set_option maxHeartbeats 4000000 in
theorem con_X12_later {E : Ex} {Q : Option Value → Mm → Prop} {p0 : Int32} {p1 : Int32} {μ : Mm} (t : p_X12_later p0 p1  μ) (k : Q (some (.int (v_X12_later p0 p1 μ))) (e_X12_later p0 p1 μ)) : Con E 7 mX12_later [rf E 49, .int p0, .int p1] μ Q := by
  refine Con_J (by decide +kernel) (Nat.le_of_ble_eq_true rfl) (fun G => ?_)
  unfold v_X12_later e_X12_later at k
  unfold p_X12_later at t
  refine J_sub (ls' := [(0, rf E 49), (1, .int p0), (2, .int p1)]) [0, 1, 2] rfl ?_
  refine J_aload_n (dk okX12_later 0 rfl) 0 rfl rfl ?_
  refine J_iconst (v := 0) (dk okX12_later 1 rfl) (by decide) ?_
  refine J_put (dk okX12_later 2 rfl) kpX12_3 ds_49 rfl rfl rfl ?_
  refine J_nm (fun μ1 eμ1 => ?_)
  have t := t μ1 eμ1
  refine J_aload_n (dk okX12_later 3 rfl) 0 rfl rfl ?_
  refine J_iload_n (dk okX12_later 4 rfl) 1 rfl rfl ?_
  refine J_callVi (As := [.int p0]) (dk okX12_later 5 rfl) ds_49 rfl vkX12_isOne lkX12_267 rfl rfl (Nat.le_of_ble_eq_true rfl) (by decide) (con_X12_isOne  ⟨_, rfl, ?_⟩)
  refine J_if_eq (tgt := 25) (dk okX12_later 6 rfl) (by decide) (fun h2 => ?_) (fun h2 => ?_)
  · refine J_iconst (v := (-1)) (dk okX12_later 13 rfl) (by decide) ?_
    subst eμ1
    (try simp only [if_pos h2] at k ⊢)
    exact J_iret (dk okX12_later 14 rfl) rfl k
  · have t := t h2
    refine J_iload_n (dk okX12_later 7 rfl) 2 rfl rfl ?_
    refine J_i2l (dk okX12_later 8 rfl) ?_
    refine J_lconst (v := 0) (dk okX12_later 9 rfl) (by decide) ?_
    refine J_ldc2 (v := 60) (dk okX12_later 10 rfl) kcX12_304 ?_
    refine J_callSi (As := [.long (Int32.toInt64 p1), .long 0, .long 60]) (dk okX12_later 11 rfl) skX12_in lkX12_114 rfl rfl (Nat.le_of_ble_eq_true rfl) (by decide) (con_X12_in  ⟨_, rfl, ?_⟩)
    refine J_if_ne (tgt := 27) (dk okX12_later 12 rfl) (by decide) (fun h3 => ?_) (fun h3 => ?_)
    · have t := t h3
      refine J_aload_n (dk okX12_later 15 rfl) 0 rfl rfl ?_
      obtain ⟨s4, t⟩ := t
      refine J_callVv (As := []) (dk okX12_later 16 rfl) ds_49 rfl vkX12_copies lkX12_346 rfl rfl (Nat.le_of_ble_eq_true rfl) (by decide) (con_X12_copies s4 ⟨rfl, ?_⟩)
      refine J_nm (fun μ5 eμ5 => ?_)
      have t := t μ5 eμ5
      refine J_aload_n (dk okX12_later 17 rfl) 0 rfl rfl ?_
      refine J_aload_n (dk okX12_later 18 rfl) 0 rfl rfl ?_
      refine J_getR (dk okX12_later 19 rfl) kfX12_35 ds_49 rfl ?_
      refine J_iload_n (dk okX12_later 20 rfl) 2 rfl rfl ?_
      obtain ⟨s6, t⟩ := t
      refine J_callVi (As := [rf E 53, .int p1]) (dk okX12_later 21 rfl) ds_49 rfl vkX12_goesOn lkX12_309 rfl rfl (Nat.le_of_ble_eq_true rfl) (by decide) (con_X12_goesOn ds_53 s6 ⟨_, rfl, ?_⟩)
      refine J_nm (fun μ7 eμ7 => ?_)
      have t := t μ7 eμ7
      refine J_pop (dk okX12_later 22 rfl) rfl ?_
      refine J_aload_n (dk okX12_later 23 rfl) 0 rfl rfl ?_
      refine J_iconst (v := 0) (dk okX12_later 24 rfl) (by decide) ?_
      refine J_put (dk okX12_later 25 rfl) kpX12_15 ds_49 rfl rfl rfl ?_
      refine J_nm (fun μ8 eμ8 => ?_)
      have t := t μ8 eμ8
      refine J_aload_n (dk okX12_later 26 rfl) 0 rfl rfl ?_
      refine J_sipush (v := 2000) (dk okX12_later 27 rfl) (by decide) ?_
      refine J_aload_n (dk okX12_later 28 rfl) 0 rfl rfl ?_
      refine J_aload_n (dk okX12_later 29 rfl) 0 rfl rfl ?_
      refine J_getR (dk okX12_later 30 rfl) kfX12_35 ds_49 rfl ?_
      obtain ⟨s9, t⟩ := t
      refine J_callVi (As := [rf E 53]) (dk okX12_later 31 rfl) ds_49 rfl vkX12_moment lkX12_275 rfl rfl (Nat.le_of_ble_eq_true rfl) (by decide) (con_X12_moment ds_53 s9 ⟨_, rfl, ?_⟩)
      refine J_nm (fun μ10 eμ10 => ?_)
      have t := t μ10 eμ10
      refine J_iadd (dk okX12_later 32 rfl) ?_
      refine J_i2l (dk okX12_later 33 rfl) ?_
      obtain ⟨s11, t⟩ := t
      refine J_callVv (As := [.long (Int32.toInt64 (2000 + (v_X12_moment 53 μ8)))]) (dk okX12_later 34 rfl) ds_49 rfl vkX12_enters lkX12_18 rfl rfl (Nat.le_of_ble_eq_true rfl) (by decide) (con_X12_enters s11 ⟨rfl, ?_⟩)
      refine J_nm (fun μ12 eμ12 => ?_)
      have t := t μ12 eμ12
      refine J_bipush (v := 100) (dk okX12_later 35 rfl) (by decide) ?_
      refine J_aload_n (dk okX12_later 36 rfl) 0 rfl rfl ?_
      refine J_getR (dk okX12_later 37 rfl) kfX12_35 ds_49 rfl ?_
      refine J_bipush (v := 7) (dk okX12_later 38 rfl) (by decide) ?_
      refine J_iload_n (dk okX12_later 39 rfl) 1 rfl rfl ?_
      refine J_iadd (dk okX12_later 40 rfl) ?_
      have s13 := t
      refine J_iald (dk okX12_later 41 rfl) ds_53 s13 ?_
      refine J_iadd (dk okX12_later 42 rfl) ?_
      subst eμ12 eμ10 eμ8 eμ7 eμ5 eμ1
      (try simp only [if_neg h2, if_neg h3] at k ⊢)
      exact J_iret (dk okX12_later 43 rfl) rfl k
    · refine J_iconst (v := (-1)) (dk okX12_later 13 rfl) (by decide) ?_
      subst eμ1
      (try simp only [if_neg h2, if_pos h3] at k ⊢)
      exact J_iret (dk okX12_later 14 rfl) rfl k
/-- VotingFloorModel.minutes(I)I -/
noncomputable def v_X12_minutes (p0 : Int32) (μ : Mm) : Int32 := (let μ1 : Mm := (upI μ 49 0 0); (if (v_X12_in (Int32.toInt64 p0) 0 60 μ1) = 0 then (-1) else (let μ4 : Mm := (e_X12_putsBy  μ1); (let μ6 : Mm := (e_X12_goesOn 52 p0 μ4); (let μ7 : Mm := (upI μ6 49 1 0); (let μ9 : Mm := (e_X12_enters (Int32.toInt64 (v_X12_goesOn 52 p0 μ4)) μ7); (let μ11 : Mm := (e_X12_standingOn 52 9 μ9); (let μ13 : Mm := (e_X12_enters (Int32.toInt64 (v_J6_bitCount_0f7a4 (v_X12_standingOn 52 9 μ9) μ11)) μ11); (let μ15 : Mm := (e_X12_standingOn 52 (-9) μ13); (let μ17 : Mm := (e_X12_enters (Int32.toInt64 (v_J6_bitCount_0f7a4 (v_X12_standingOn 52 (-9) μ13) μ15)) μ15); (let μ19 : Mm := (e_X12_moment 52 μ17); (v_X12_adds (2000 + (v_X12_moment 52 μ17)) μ19))))))))))))
noncomputable def e_X12_minutes (p0 : Int32) (μ : Mm) : Mm := (let μ1 : Mm := (upI μ 49 0 0); (if (v_X12_in (Int32.toInt64 p0) 0 60 μ1) = 0 then μ1 else (let μ4 : Mm := (e_X12_putsBy  μ1); (let μ6 : Mm := (e_X12_goesOn 52 p0 μ4); (let μ7 : Mm := (upI μ6 49 1 0); (let μ9 : Mm := (e_X12_enters (Int32.toInt64 (v_X12_goesOn 52 p0 μ4)) μ7); (let μ11 : Mm := (e_X12_standingOn 52 9 μ9); (let μ13 : Mm := (e_X12_enters (Int32.toInt64 (v_J6_bitCount_0f7a4 (v_X12_standingOn 52 9 μ9) μ11)) μ11); (let μ15 : Mm := (e_X12_standingOn 52 (-9) μ13); (let μ17 : Mm := (e_X12_enters (Int32.toInt64 (v_J6_bitCount_0f7a4 (v_X12_standingOn 52 (-9) μ13) μ15)) μ15); (let μ19 : Mm := (e_X12_moment 52 μ17); (let μ21 : Mm := (e_X12_adds (2000 + (v_X12_moment 52 μ17)) μ19); μ21))))))))))))
def p_X12_minutes (p0 : Int32)  (μ : Mm) : Prop := (∀ μ1 : Mm, μ1 = (upI μ 49 0 0) → (¬ ((v_X12_in (Int32.toInt64 p0) 0 60 μ1) = 0) → (p_X12_putsBy μ1) ∧ (∀ μ4 : Mm, μ4 = (e_X12_putsBy  μ1) → (p_X12_goesOn 52 p0 μ4) ∧ (∀ μ6 : Mm, μ6 = (e_X12_goesOn 52 p0 μ4) → (∀ μ7 : Mm, μ7 = (upI μ6 49 1 0) → (p_X12_enters (Int32.toInt64 (v_X12_goesOn 52 p0 μ4)) μ7) ∧ (∀ μ9 : Mm, μ9 = (e_X12_enters (Int32.toInt64 (v_X12_goesOn 52 p0 μ4)) μ7) → (p_X12_standingOn 52 9 μ9) ∧ (∀ μ11 : Mm, μ11 = (e_X12_standingOn 52 9 μ9) → (p_X12_enters (Int32.toInt64 (v_J6_bitCount_0f7a4 (v_X12_standingOn 52 9 μ9) μ11)) μ11) ∧ (∀ μ13 : Mm, μ13 = (e_X12_enters (Int32.toInt64 (v_J6_bitCount_0f7a4 (v_X12_standingOn 52 9 μ9) μ11)) μ11) → (p_X12_standingOn 52 (-9) μ13) ∧ (∀ μ15 : Mm, μ15 = (e_X12_standingOn 52 (-9) μ13) → (p_X12_enters (Int32.toInt64 (v_J6_bitCount_0f7a4 (v_X12_standingOn 52 (-9) μ13) μ15)) μ15) ∧ (∀ μ17 : Mm, μ17 = (e_X12_enters (Int32.toInt64 (v_J6_bitCount_0f7a4 (v_X12_standingOn 52 (-9) μ13) μ15)) μ15) → (p_X12_moment 52 μ17) ∧ (∀ μ19 : Mm, μ19 = (e_X12_moment 52 μ17) → p_X12_adds (2000 + (v_X12_moment 52 μ17)) μ19)))))))))))
set_option maxRecDepth 20000 in
set_option maxHeartbeats 4000000 in
theorem con_X12_minutes {E : Ex} {Q : Option Value → Mm → Prop} {p0 : Int32} {μ : Mm} (t : p_X12_minutes p0  μ) (k : Q (some (.int (v_X12_minutes p0 μ))) (e_X12_minutes p0 μ)) : Con E 7 mX12_minutes [rf E 49, .int p0] μ Q := by
  refine Con_J (by decide +kernel) (Nat.le_of_ble_eq_true rfl) (fun G => ?_)
  unfold v_X12_minutes e_X12_minutes at k
  unfold p_X12_minutes at t
  refine J_sub (ls' := [(0, rf E 49), (1, .int p0)]) [0, 1] rfl ?_
  refine J_aload_n (dk okX12_minutes 0 rfl) 0 rfl rfl ?_
  refine J_iconst (v := 0) (dk okX12_minutes 1 rfl) (by decide) ?_
  refine J_put (dk okX12_minutes 2 rfl) kpX12_3 ds_49 rfl rfl rfl ?_
  refine J_nm (fun μ1 eμ1 => ?_)
  have t := t μ1 eμ1
  refine J_iload_n (dk okX12_minutes 3 rfl) 1 rfl rfl ?_
  refine J_i2l (dk okX12_minutes 4 rfl) ?_
  refine J_lconst (v := 0) (dk okX12_minutes 5 rfl) (by decide) ?_
  refine J_ldc2 (v := 60) (dk okX12_minutes 6 rfl) kcX12_304 ?_
  refine J_callSi (As := [.long (Int32.toInt64 p0), .long 0, .long 60]) (dk okX12_minutes 7 rfl) skX12_in lkX12_114 rfl rfl (Nat.le_of_ble_eq_true rfl) (by decide) (con_X12_in  ⟨_, rfl, ?_⟩)
  refine J_if_ne (tgt := 19) (dk okX12_minutes 8 rfl) (by decide) (fun h2 => ?_) (fun h2 => ?_)
  · have t := t h2
    refine J_aload_n (dk okX12_minutes 11 rfl) 0 rfl rfl ?_
    obtain ⟨s3, t⟩ := t
    refine J_callVv (As := []) (dk okX12_minutes 12 rfl) ds_49 rfl vkX12_putsBy lkX12_306 rfl rfl (Nat.le_of_ble_eq_true rfl) (by decide) (con_X12_putsBy s3 ⟨rfl, ?_⟩)
    refine J_nm (fun μ4 eμ4 => ?_)
    have t := t μ4 eμ4
    refine J_aload_n (dk okX12_minutes 13 rfl) 0 rfl rfl ?_
    refine J_aload_n (dk okX12_minutes 14 rfl) 0 rfl rfl ?_
    refine J_getR (dk okX12_minutes 15 rfl) kfX12_32 ds_49 rfl ?_
    refine J_iload_n (dk okX12_minutes 16 rfl) 1 rfl rfl ?_
    obtain ⟨s5, t⟩ := t
    refine J_callVi (As := [rf E 52, .int p0]) (dk okX12_minutes 17 rfl) ds_49 rfl vkX12_goesOn lkX12_309 rfl rfl (Nat.le_of_ble_eq_true rfl) (by decide) (con_X12_goesOn ds_52 s5 ⟨_, rfl, ?_⟩)
    refine J_nm (fun μ6 eμ6 => ?_)
    have t := t μ6 eμ6
    refine J_istore_n (ls' := [(2, _), (0, _), (1, _)]) (dk okX12_minutes 18 rfl) rfl (by decide) rfl ?_
    refine J_aload_n (dk okX12_minutes 19 rfl) 1 rfl rfl ?_
    refine J_iconst (v := 0) (dk okX12_minutes 20 rfl) (by decide) ?_
    refine J_put (dk okX12_minutes 21 rfl) kpX12_15 ds_49 rfl rfl rfl ?_
    refine J_nm (fun μ7 eμ7 => ?_)
    have t := t μ7 eμ7
    refine J_aload_n (dk okX12_minutes 22 rfl) 1 rfl rfl ?_
    refine J_iload_n (dk okX12_minutes 23 rfl) 0 rfl rfl ?_
    refine J_i2l (dk okX12_minutes 24 rfl) ?_
    obtain ⟨s8, t⟩ := t
    refine J_callVv (As := [.long (Int32.toInt64 (v_X12_goesOn 52 p0 μ4))]) (dk okX12_minutes 25 rfl) ds_49 rfl vkX12_enters lkX12_18 rfl rfl (Nat.le_of_ble_eq_true rfl) (by decide) (con_X12_enters s8 ⟨rfl, ?_⟩)
    refine J_nm (fun μ9 eμ9 => ?_)
    have t := t μ9 eμ9
    refine J_aload_n (dk okX12_minutes 26 rfl) 1 rfl rfl ?_
    refine J_aload_n (dk okX12_minutes 27 rfl) 1 rfl rfl ?_
    refine J_aload_n (dk okX12_minutes 28 rfl) 1 rfl rfl ?_
    refine J_getR (dk okX12_minutes 29 rfl) kfX12_32 ds_49 rfl ?_
    refine J_bipush (v := 9) (dk okX12_minutes 30 rfl) (by decide) ?_
    obtain ⟨s10, t⟩ := t
    refine J_callVi (As := [rf E 52, .int 9]) (dk okX12_minutes 31 rfl) ds_49 rfl vkX12_standingOn lkX12_312 rfl rfl (Nat.le_of_ble_eq_true rfl) (by decide) (con_X12_standingOn ds_52 s10 ⟨_, rfl, ?_⟩)
    refine J_nm (fun μ11 eμ11 => ?_)
    have t := t μ11 eμ11
    refine J_callSi (As := [.int (v_X12_standingOn 52 9 μ9)]) (dk okX12_minutes 32 rfl) skJ6_bitCount_0f7a4 lkX12_299 rfl rfl (Nat.le_of_ble_eq_true rfl) (by decide) (con_J6_bitCount_0f7a4  ⟨_, rfl, ?_⟩)
    refine J_i2l (dk okX12_minutes 33 rfl) ?_
    obtain ⟨s12, t⟩ := t
    refine J_callVv (As := [.long (Int32.toInt64 (v_J6_bitCount_0f7a4 (v_X12_standingOn 52 9 μ9) μ11))]) (dk okX12_minutes 34 rfl) ds_49 rfl vkX12_enters lkX12_18 rfl rfl (Nat.le_of_ble_eq_true rfl) (by decide) (con_X12_enters s12 ⟨rfl, ?_⟩)
    refine J_nm (fun μ13 eμ13 => ?_)
    have t := t μ13 eμ13
    refine J_aload_n (dk okX12_minutes 35 rfl) 1 rfl rfl ?_
    refine J_aload_n (dk okX12_minutes 36 rfl) 1 rfl rfl ?_
    refine J_aload_n (dk okX12_minutes 37 rfl) 1 rfl rfl ?_
    refine J_getR (dk okX12_minutes 38 rfl) kfX12_32 ds_49 rfl ?_
    refine J_bipush (v := (-9)) (dk okX12_minutes 39 rfl) (by decide) ?_
    obtain ⟨s14, t⟩ := t
    refine J_callVi (As := [rf E 52, .int (-9)]) (dk okX12_minutes 40 rfl) ds_49 rfl vkX12_standingOn lkX12_312 rfl rfl (Nat.le_of_ble_eq_true rfl) (by decide) (con_X12_standingOn ds_52 s14 ⟨_, rfl, ?_⟩)
    refine J_nm (fun μ15 eμ15 => ?_)
    have t := t μ15 eμ15
    refine J_callSi (As := [.int (v_X12_standingOn 52 (-9) μ13)]) (dk okX12_minutes 41 rfl) skJ6_bitCount_0f7a4 lkX12_299 rfl rfl (Nat.le_of_ble_eq_true rfl) (by decide) (con_J6_bitCount_0f7a4  ⟨_, rfl, ?_⟩)
    refine J_i2l (dk okX12_minutes 42 rfl) ?_
    obtain ⟨s16, t⟩ := t
    refine J_callVv (As := [.long (Int32.toInt64 (v_J6_bitCount_0f7a4 (v_X12_standingOn 52 (-9) μ13) μ15))]) (dk okX12_minutes 43 rfl) ds_49 rfl vkX12_enters lkX12_18 rfl rfl (Nat.le_of_ble_eq_true rfl) (by decide) (con_X12_enters s16 ⟨rfl, ?_⟩)
    refine J_nm (fun μ17 eμ17 => ?_)
    have t := t μ17 eμ17
    refine J_aload_n (dk okX12_minutes 44 rfl) 1 rfl rfl ?_
    refine J_sipush (v := 2000) (dk okX12_minutes 45 rfl) (by decide) ?_
    refine J_aload_n (dk okX12_minutes 46 rfl) 1 rfl rfl ?_
    refine J_aload_n (dk okX12_minutes 47 rfl) 1 rfl rfl ?_
    refine J_getR (dk okX12_minutes 48 rfl) kfX12_32 ds_49 rfl ?_
    obtain ⟨s18, t⟩ := t
    refine J_callVi (As := [rf E 52]) (dk okX12_minutes 49 rfl) ds_49 rfl vkX12_moment lkX12_275 rfl rfl (Nat.le_of_ble_eq_true rfl) (by decide) (con_X12_moment ds_52 s18 ⟨_, rfl, ?_⟩)
    refine J_nm (fun μ19 eμ19 => ?_)
    have t := t μ19 eμ19
    refine J_iadd (dk okX12_minutes 50 rfl) ?_
    have s20 := t
    refine J_callVi (As := [.int (2000 + (v_X12_moment 52 μ17))]) (dk okX12_minutes 51 rfl) ds_49 rfl vkX12_adds lkX12_287 rfl rfl (Nat.le_of_ble_eq_true rfl) (by decide) (con_X12_adds s20 ⟨_, rfl, ?_⟩)
    refine J_nm (fun μ21 eμ21 => ?_)
    subst eμ21 eμ19 eμ17 eμ15 eμ13 eμ11 eμ9 eμ7 eμ6 eμ4 eμ1
    (try simp only [if_neg h2] at k ⊢)
    exact J_iret (dk okX12_minutes 52 rfl) rfl k
  · refine J_iconst (v := (-1)) (dk okX12_minutes 9 rfl) (by decide) ?_
    subst eμ1
    (try simp only [if_pos h2] at k ⊢)
    exact J_iret (dk okX12_minutes 10 rfl) rfl k
noncomputable def bd_X12_wishesOf_4  (x1 : Int32) (x2 : Int32) (x3 : Int32) (μ : Mm) : (Int32 × Int32 × Int32 × Mm) ⊕ (Int32 × Mm) := (if 19 ≤ x3 then .inr (x2, μ) else (let μ3 : Mm := (e_X12_isAsSeen x1 x3 μ); .inl (x1, (x2 ||| (if (v_X12_isAsSeen x1 x3 μ) = 0 then 0 else (1 <<< (x3 &&& 31)) : Int32)), (x3 + 1), μ3)))
def sd_X12_wishesOf_4   (x1 : Int32) (x2 : Int32) (x3 : Int32) (μ : Mm) : Prop := (¬ (19 ≤ x3) → p_X12_isAsSeen x1 x3 μ)
set_option maxRecDepth 20000 in
set_option maxHeartbeats 4000000 in
theorem lw_X12_wishesOf_4 {E : Ex} {G : Gx} {Q : Option Value → Mm → Prop} {x1 : Int32} {x2 : Int32} {x3 : Int32} {μ : Mm}  (p : whP (fun s : Int32 × Int32 × Int32 × Mm => bd_X12_wishesOf_4  s.1 s.2.1 s.2.2.1 s.2.2.2) (fun s : Int32 × Int32 × Int32 × Mm => sd_X12_wishesOf_4   s.1 s.2.1 s.2.2.1 s.2.2.2) FU (x1, x2, x3, μ)) (k : ∀ r : Int32 × Mm, r = whl (fun s : Int32 × Int32 × Int32 × Mm => bd_X12_wishesOf_4  s.1 s.2.1 s.2.2.1 s.2.2.2) (0, m00) FU (x1, x2, x3, μ) → J E G 7 mX12_wishesOf Q 35 [(2, .int (r.1))] [] (r.2)) : J E G 7 mX12_wishesOf Q 4 [(0, rf E 49), (1, .int x1), (2, .int x2), (3, .int x3)] [] μ := by
  refine J_whl (f := (fun s : Int32 × Int32 × Int32 × Mm => bd_X12_wishesOf_4  s.1 s.2.1 s.2.2.1 s.2.2.2)) (dd := (0, m00)) (sd := (fun s : Int32 × Int32 × Int32 × Mm => sd_X12_wishesOf_4   s.1 s.2.1 s.2.2.1 s.2.2.2)) (P := fun s : Int32 × Int32 × Int32 × Mm => J E G 7 mX12_wishesOf Q 4 [(0, rf E 49), (1, .int (s.1)), (2, .int (s.2.1)), (3, .int (s.2.2.1))] [] (s.2.2.2)) (R := fun r : Int32 × Mm => J E G 7 mX12_wishesOf Q 35 [(2, .int (r.1))] [] (r.2)) ?_ FU (x1, x2, x3, μ) p (k _ rfl)
  clear p k
  rintro ⟨x1, x2, x3, μ⟩ t k1 k2
  dsimp only [sd_X12_wishesOf_4] at t
  have kb : ∀ (y1 : Int32) (y2 : Int32) (y3 : Int32) (μ9 : Mm), bd_X12_wishesOf_4  x1 x2 x3 μ = .inl (y1, y2, y3, μ9) → J E G 7 mX12_wishesOf Q 4 [(0, rf E 49), (1, .int y1), (2, .int y2), (3, .int y3)] [] μ9 := fun y1 y2 y3 μ9 h => k1 (y1, y2, y3, μ9) h
  have kx : ∀ (y2 : Int32) (μ9 : Mm), bd_X12_wishesOf_4  x1 x2 x3 μ = .inr (y2, μ9) → J E G 7 mX12_wishesOf Q 35 [(2, .int y2)] [] μ9 := fun y2 μ9 h => k2 (y2, μ9) h
  clear k1 k2
  refine J_iload_n (dk okX12_wishesOf 4 rfl) 3 rfl rfl ?_
  refine J_bipush (v := 19) (dk okX12_wishesOf 5 rfl) (by decide) ?_
  refine J_icmp_ge (tgt := 35) (dk okX12_wishesOf 6 rfl) (by decide) (fun h1 => ?_) (fun h1 => ?_)
  · exact J_sub [2] rfl (kx x2 μ (by unfold bd_X12_wishesOf_4; first | (simp only [if_pos h1]; done) | (simp only [if_pos h1]; rfl) | rfl))
  · have t := t h1
    refine J_iload_n (dk okX12_wishesOf 7 rfl) 2 rfl rfl ?_
    refine J_aload_n (dk okX12_wishesOf 8 rfl) 0 rfl rfl ?_
    refine J_iload_n (dk okX12_wishesOf 9 rfl) 1 rfl rfl ?_
    refine J_iload_n (dk okX12_wishesOf 10 rfl) 3 rfl rfl ?_
    have s2 := t
    refine J_callVi (As := [.int x1, .int x3]) (dk okX12_wishesOf 11 rfl) ds_49 rfl vkX12_isAsSeen lkX12_397 rfl rfl (Nat.le_of_ble_eq_true rfl) (by decide) (con_X12_isAsSeen s2 ⟨_, rfl, ?_⟩)
    refine J_nm (fun μ3 eμ3 => ?_)
    have K5 : J E G 7 mX12_wishesOf Q 27 [(0, rf E 49), (1, .int x1), (3, .int x3)] [.int (if (v_X12_isAsSeen x1 x3 μ) = 0 then 0 else (1 <<< (x3 &&& 31)) : Int32), .int x2] μ3 := by
      refine J_ior (dk okX12_wishesOf 18 rfl) ?_
      refine J_istore_n (ls' := [(2, _), (0, _), (1, _), (3, _)]) (dk okX12_wishesOf 19 rfl) rfl (by decide) rfl ?_
      refine J_iinc (v := (x3 + 1)) (ls' := [(3, _), (2, _), (0, _), (1, _)]) (dk okX12_wishesOf 20 rfl) 3 rfl rfl (by decide) rfl ?_
      refine J_goto (tgt := 4) (dk okX12_wishesOf 21 rfl) (by decide) ?_
      exact J_sub [2, 3, 1, 0] rfl (kb x1 (x2 ||| (if (v_X12_isAsSeen x1 x3 μ) = 0 then 0 else (1 <<< (x3 &&& 31)) : Int32)) (x3 + 1) μ3 (by subst eμ3; unfold bd_X12_wishesOf_4; first | (simp only [if_neg h1]; done) | (simp only [if_neg h1]; rfl) | rfl))
    refine J_if_eq (tgt := 26) (dk okX12_wishesOf 12 rfl) (by decide) (fun h4 => ?_) (fun h4 => ?_)
    · refine J_iconst (v := 0) (dk okX12_wishesOf 17 rfl) (by decide) ?_
      refine J_sub (ls' := [(0, _), (1, _), (3, _)]) [0, 1, 3] rfl ?_
      (try simp only [if_pos h4] at K5 ⊢); exact K5
    · refine J_iconst (v := 1) (dk okX12_wishesOf 13 rfl) (by decide) ?_
      refine J_iload_n (dk okX12_wishesOf 14 rfl) 3 rfl rfl ?_
      refine J_ishl (dk okX12_wishesOf 15 rfl) ?_
      refine J_goto (tgt := 27) (dk okX12_wishesOf 16 rfl) (by decide) ?_
      refine J_sub (ls' := [(0, _), (1, _), (3, _)]) [0, 1, 3] rfl ?_
      (try simp only [if_neg h4] at K5 ⊢); exact K5
/-- VotingFloorModel.wishesOf(I)I -/
noncomputable def v_X12_wishesOf (p0 : Int32) (μ : Mm) : Int32 := (let r2 : Int32 × Mm := whl (fun s : Int32 × Int32 × Int32 × Mm => bd_X12_wishesOf_4  s.1 s.2.1 s.2.2.1 s.2.2.2) (0, m00) FU (p0, 0, 0, μ); (r2.1))
noncomputable def e_X12_wishesOf (p0 : Int32) (μ : Mm) : Mm := (let r2 : Int32 × Mm := whl (fun s : Int32 × Int32 × Int32 × Mm => bd_X12_wishesOf_4  s.1 s.2.1 s.2.2.1 s.2.2.2) (0, m00) FU (p0, 0, 0, μ); (r2.2))
def p_X12_wishesOf (p0 : Int32)  (μ : Mm) : Prop := whP (fun s : Int32 × Int32 × Int32 × Mm => bd_X12_wishesOf_4  s.1 s.2.1 s.2.2.1 s.2.2.2) (fun s : Int32 × Int32 × Int32 × Mm => sd_X12_wishesOf_4   s.1 s.2.1 s.2.2.1 s.2.2.2) FU (p0, 0, 0, μ)
set_option maxRecDepth 20000 in
set_option maxHeartbeats 4000000 in
theorem con_X12_wishesOf {E : Ex} {Q : Option Value → Mm → Prop} {p0 : Int32} {μ : Mm} (t : p_X12_wishesOf p0  μ) (k : Q (some (.int (v_X12_wishesOf p0 μ))) (e_X12_wishesOf p0 μ)) : Con E 7 mX12_wishesOf [rf E 49, .int p0] μ Q := by
  refine Con_J (by decide +kernel) (Nat.le_of_ble_eq_true rfl) (fun G => ?_)
  unfold v_X12_wishesOf e_X12_wishesOf at k
  unfold p_X12_wishesOf at t
  refine J_sub (ls' := [(0, rf E 49), (1, .int p0)]) [0, 1] rfl ?_
  refine J_iconst (v := 0) (dk okX12_wishesOf 0 rfl) (by decide) ?_
  refine J_istore_n (ls' := [(2, _), (0, _), (1, _)]) (dk okX12_wishesOf 1 rfl) rfl (by decide) rfl ?_
  refine J_iconst (v := 0) (dk okX12_wishesOf 2 rfl) (by decide) ?_
  refine J_istore_n (ls' := [(3, _), (2, _), (0, _), (1, _)]) (dk okX12_wishesOf 3 rfl) rfl (by decide) rfl ?_
  have s1 := t
  refine J_sub (ls' := [(0, _), (1, _), (2, _), (3, _)]) [2, 3, 1, 0] rfl ?_
  refine lw_X12_wishesOf_4  s1 (fun r2 er2 => ?_)
  refine J_iload_n (dk okX12_wishesOf 22 rfl) 0 rfl rfl ?_
  subst er2
  exact J_iret (dk okX12_wishesOf 23 rfl) rfl k
/-- VotingFloorModel.cares(I)I -/
noncomputable def v_X12_cares (p0 : Int32) (μ : Mm) : Int32 := (let μ1 : Mm := (upI μ 49 0 0); (if (v_X12_isOne p0 μ1) = 0 then (-1) else (v_X12_wishesOf p0 μ1)))
noncomputable def e_X12_cares (p0 : Int32) (μ : Mm) : Mm := (let μ1 : Mm := (upI μ 49 0 0); (if (v_X12_isOne p0 μ1) = 0 then μ1 else (let μ4 : Mm := (e_X12_wishesOf p0 μ1); (let μ5 : Mm := (upI μ4 49 1 0); (let μ7 : Mm := (e_X12_enters (Int32.toInt64 (v_J6_bitCount_0f7a4 (v_X12_wishesOf p0 μ1) μ5)) μ5); (let μ13 : Mm := (if (v_X12_wishesOf p0 μ1) = 0 then μ7 else ((e_X12_enters (Int32.toInt64 (122 - (v_J6_numberOfLeadingZeros_0f7a4 (v_X12_wishesOf p0 μ1) ((e_X12_enters (Int32.toInt64 (91 + (v_J6_numberOfTrailingZeros_0f7a4 (v_X12_wishesOf p0 μ1) μ7))) μ7))))) ((e_X12_enters (Int32.toInt64 (91 + (v_J6_numberOfTrailingZeros_0f7a4 (v_X12_wishesOf p0 μ1) μ7))) μ7)))) : Mm); μ13))))))
def p_X12_cares (p0 : Int32)  (μ : Mm) : Prop := (∀ μ1 : Mm, μ1 = (upI μ 49 0 0) → (¬ ((v_X12_isOne p0 μ1) = 0) → (p_X12_wishesOf p0 μ1) ∧ (∀ μ4 : Mm, μ4 = (e_X12_wishesOf p0 μ1) → (∀ μ5 : Mm, μ5 = (upI μ4 49 1 0) → (p_X12_enters (Int32.toInt64 (v_J6_bitCount_0f7a4 (v_X12_wishesOf p0 μ1) μ5)) μ5) ∧ (∀ μ7 : Mm, μ7 = (e_X12_enters (Int32.toInt64 (v_J6_bitCount_0f7a4 (v_X12_wishesOf p0 μ1) μ5)) μ5) → (¬ ((v_X12_wishesOf p0 μ1) = 0) → (p_X12_enters (Int32.toInt64 (91 + (v_J6_numberOfTrailingZeros_0f7a4 (v_X12_wishesOf p0 μ1) μ7))) μ7) ∧ (∀ μ10 : Mm, μ10 = (e_X12_enters (Int32.toInt64 (91 + (v_J6_numberOfTrailingZeros_0f7a4 (v_X12_wishesOf p0 μ1) μ7))) μ7) → p_X12_enters (Int32.toInt64 (122 - (v_J6_numberOfLeadingZeros_0f7a4 (v_X12_wishesOf p0 μ1) μ10))) μ10)))))))
set_option maxRecDepth 20000 in
set_option maxHeartbeats 4000000 in
theorem con_X12_cares {E : Ex} {Q : Option Value → Mm → Prop} {p0 : Int32} {μ : Mm} (t : p_X12_cares p0  μ) (k : Q (some (.int (v_X12_cares p0 μ))) (e_X12_cares p0 μ)) : Con E 8 mX12_cares [rf E 49, .int p0] μ Q := by
  refine Con_J (by decide +kernel) (Nat.le_of_ble_eq_true rfl) (fun G => ?_)
  unfold v_X12_cares e_X12_cares at k
  unfold p_X12_cares at t
  refine J_sub (ls' := [(0, rf E 49), (1, .int p0)]) [0, 1] rfl ?_
  refine J_aload_n (dk okX12_cares 0 rfl) 0 rfl rfl ?_
  refine J_iconst (v := 0) (dk okX12_cares 1 rfl) (by decide) ?_
  refine J_put (dk okX12_cares 2 rfl) kpX12_3 ds_49 rfl rfl rfl ?_
  refine J_nm (fun μ1 eμ1 => ?_)
  have t := t μ1 eμ1
  refine J_aload_n (dk okX12_cares 3 rfl) 0 rfl rfl ?_
  refine J_iload_n (dk okX12_cares 4 rfl) 1 rfl rfl ?_
  refine J_callVi (As := [.int p0]) (dk okX12_cares 5 rfl) ds_49 rfl vkX12_isOne lkX12_267 rfl rfl (Nat.le_of_ble_eq_true rfl) (by decide) (con_X12_isOne  ⟨_, rfl, ?_⟩)
  refine J_if_ne (tgt := 15) (dk okX12_cares 6 rfl) (by decide) (fun h2 => ?_) (fun h2 => ?_)
  · have t := t h2
    refine J_aload_n (dk okX12_cares 9 rfl) 0 rfl rfl ?_
    refine J_iload_n (dk okX12_cares 10 rfl) 1 rfl rfl ?_
    obtain ⟨s3, t⟩ := t
    refine J_callVi (As := [.int p0]) (dk okX12_cares 11 rfl) ds_49 rfl vkX12_wishesOf lkX12_400 rfl rfl (Nat.le_of_ble_eq_true rfl) (by decide) (con_X12_wishesOf s3 ⟨_, rfl, ?_⟩)
    refine J_nm (fun μ4 eμ4 => ?_)
    have t := t μ4 eμ4
    refine J_istore_n (ls' := [(2, _), (0, _), (1, _)]) (dk okX12_cares 12 rfl) rfl (by decide) rfl ?_
    refine J_aload_n (dk okX12_cares 13 rfl) 1 rfl rfl ?_
    refine J_iconst (v := 0) (dk okX12_cares 14 rfl) (by decide) ?_
    refine J_put (dk okX12_cares 15 rfl) kpX12_15 ds_49 rfl rfl rfl ?_
    refine J_nm (fun μ5 eμ5 => ?_)
    have t := t μ5 eμ5
    refine J_aload_n (dk okX12_cares 16 rfl) 1 rfl rfl ?_
    refine J_iload_n (dk okX12_cares 17 rfl) 0 rfl rfl ?_
    refine J_callSi (As := [.int (v_X12_wishesOf p0 μ1)]) (dk okX12_cares 18 rfl) skJ6_bitCount_0f7a4 lkX12_299 rfl rfl (Nat.le_of_ble_eq_true rfl) (by decide) (con_J6_bitCount_0f7a4  ⟨_, rfl, ?_⟩)
    refine J_i2l (dk okX12_cares 19 rfl) ?_
    obtain ⟨s6, t⟩ := t
    refine J_callVv (As := [.long (Int32.toInt64 (v_J6_bitCount_0f7a4 (v_X12_wishesOf p0 μ1) μ5))]) (dk okX12_cares 20 rfl) ds_49 rfl vkX12_enters lkX12_18 rfl rfl (Nat.le_of_ble_eq_true rfl) (by decide) (con_X12_enters s6 ⟨rfl, ?_⟩)
    refine J_nm (fun μ7 eμ7 => ?_)
    have t := t μ7 eμ7
    refine J_iload_n (dk okX12_cares 21 rfl) 0 rfl rfl ?_
    have K14 : J E G 8 mX12_cares Q 63 [(2, .int (v_X12_wishesOf p0 μ1))] [] (if (v_X12_wishesOf p0 μ1) = 0 then μ7 else ((e_X12_enters (Int32.toInt64 (122 - (v_J6_numberOfLeadingZeros_0f7a4 (v_X12_wishesOf p0 μ1) ((e_X12_enters (Int32.toInt64 (91 + (v_J6_numberOfTrailingZeros_0f7a4 (v_X12_wishesOf p0 μ1) μ7))) μ7))))) ((e_X12_enters (Int32.toInt64 (91 + (v_J6_numberOfTrailingZeros_0f7a4 (v_X12_wishesOf p0 μ1) μ7))) μ7)))) : Mm) := by
      refine J_nm (fun μ13 eμ13 => ?_)
      refine J_iload_n (dk okX12_cares 37 rfl) 0 rfl rfl ?_
      subst eμ13 eμ7 eμ5 eμ4 eμ1
      (try simp only [if_neg h2] at k ⊢)
      exact J_iret (dk okX12_cares 38 rfl) rfl k
    refine J_if_eq (tgt := 63) (dk okX12_cares 22 rfl) (by decide) (fun h8 => ?_) (fun h8 => ?_)
    · refine J_sub (ls' := [(2, _)]) [0] rfl ?_
      (try simp only [if_pos h8] at K14 ⊢); exact K14
    · have t := t h8
      refine J_aload_n (dk okX12_cares 23 rfl) 1 rfl rfl ?_
      refine J_bipush (v := 91) (dk okX12_cares 24 rfl) (by decide) ?_
      refine J_iload_n (dk okX12_cares 25 rfl) 0 rfl rfl ?_
      refine J_callSi (As := [.int (v_X12_wishesOf p0 μ1)]) (dk okX12_cares 26 rfl) skJ6_numberOfTrailingZeros_0f7a4 lkX12_403 rfl rfl (Nat.le_of_ble_eq_true rfl) (by decide) (con_J6_numberOfTrailingZeros_0f7a4  ⟨_, rfl, ?_⟩)
      refine J_iadd (dk okX12_cares 27 rfl) ?_
      refine J_i2l (dk okX12_cares 28 rfl) ?_
      obtain ⟨s9, t⟩ := t
      refine J_callVv (As := [.long (Int32.toInt64 (91 + (v_J6_numberOfTrailingZeros_0f7a4 (v_X12_wishesOf p0 μ1) μ7)))]) (dk okX12_cares 29 rfl) ds_49 rfl vkX12_enters lkX12_18 rfl rfl (Nat.le_of_ble_eq_true rfl) (by decide) (con_X12_enters s9 ⟨rfl, ?_⟩)
      refine J_nm (fun μ10 eμ10 => ?_)
      have t := t μ10 eμ10
      refine J_aload_n (dk okX12_cares 30 rfl) 1 rfl rfl ?_
      refine J_bipush (v := 122) (dk okX12_cares 31 rfl) (by decide) ?_
      refine J_iload_n (dk okX12_cares 32 rfl) 0 rfl rfl ?_
      refine J_callSi (As := [.int (v_X12_wishesOf p0 μ1)]) (dk okX12_cares 33 rfl) skJ6_numberOfLeadingZeros_0f7a4 lkX12_406 rfl rfl (Nat.le_of_ble_eq_true rfl) (by decide) (con_J6_numberOfLeadingZeros_0f7a4  ⟨_, rfl, ?_⟩)
      refine J_isub (dk okX12_cares 34 rfl) ?_
      refine J_i2l (dk okX12_cares 35 rfl) ?_
      have s11 := t
      refine J_callVv (As := [.long (Int32.toInt64 (122 - (v_J6_numberOfLeadingZeros_0f7a4 (v_X12_wishesOf p0 μ1) μ10)))]) (dk okX12_cares 36 rfl) ds_49 rfl vkX12_enters lkX12_18 rfl rfl (Nat.le_of_ble_eq_true rfl) (by decide) (con_X12_enters s11 ⟨rfl, ?_⟩)
      refine J_nm (fun μ12 eμ12 => ?_)
      subst eμ12 eμ10
      refine J_sub (ls' := [(2, _)]) [0] rfl ?_
      (try simp only [if_neg h8] at K14 ⊢); exact K14
  · refine J_iconst (v := (-1)) (dk okX12_cares 7 rfl) (by decide) ?_
    subst eμ1
    (try simp only [if_pos h2] at k ⊢)
    exact J_iret (dk okX12_cares 8 rfl) rfl k
/-- VotingFloorModel.decides()I -/
noncomputable def v_X12_decides  (μ : Mm) : Int32 := (let μ1 : Mm := (upI μ 49 0 0); (let μ3 : Mm := (e_X12_goesToNoon  μ1); (let μ4 : Mm := (upI μ3 49 1 0); (let μ6 : Mm := (e_X12_moment 53 μ4); (let μ8 : Mm := (e_X12_enters (Int32.toInt64 (2000 + (v_X12_moment 53 μ4))) μ6); (let μ10 : Mm := (e_X12_entersPlaces  μ8); (let μ12 : Mm := (e_X12_moment 53 μ10); (v_X12_side (v_X12_moment 53 μ10) μ12))))))))
noncomputable def e_X12_decides  (μ : Mm) : Mm := (let μ1 : Mm := (upI μ 49 0 0); (let μ3 : Mm := (e_X12_goesToNoon  μ1); (let μ4 : Mm := (upI μ3 49 1 0); (let μ6 : Mm := (e_X12_moment 53 μ4); (let μ8 : Mm := (e_X12_enters (Int32.toInt64 (2000 + (v_X12_moment 53 μ4))) μ6); (let μ10 : Mm := (e_X12_entersPlaces  μ8); (let μ12 : Mm := (e_X12_moment 53 μ10); μ12)))))))
def p_X12_decides   (μ : Mm) : Prop := (∀ μ1 : Mm, μ1 = (upI μ 49 0 0) → (p_X12_goesToNoon μ1) ∧ (∀ μ3 : Mm, μ3 = (e_X12_goesToNoon  μ1) → (∀ μ4 : Mm, μ4 = (upI μ3 49 1 0) → (p_X12_moment 53 μ4) ∧ (∀ μ6 : Mm, μ6 = (e_X12_moment 53 μ4) → (p_X12_enters (Int32.toInt64 (2000 + (v_X12_moment 53 μ4))) μ6) ∧ (∀ μ8 : Mm, μ8 = (e_X12_enters (Int32.toInt64 (2000 + (v_X12_moment 53 μ4))) μ6) → (p_X12_entersPlaces μ8) ∧ (∀ μ10 : Mm, μ10 = (e_X12_entersPlaces  μ8) → p_X12_moment 53 μ10))))))
set_option maxRecDepth 20000 in
set_option maxHeartbeats 4000000 in
theorem con_X12_decides {E : Ex} {Q : Option Value → Mm → Prop} {μ : Mm} (t : p_X12_decides   μ) (k : Q (some (.int (v_X12_decides  μ))) (e_X12_decides  μ)) : Con E 8 mX12_decides [rf E 49] μ Q := by
  refine Con_J (by decide +kernel) (Nat.le_of_ble_eq_true rfl) (fun G => ?_)
  unfold v_X12_decides e_X12_decides at k
  unfold p_X12_decides at t
  refine J_sub (ls' := [(0, rf E 49)]) [0] rfl ?_
  refine J_aload_n (dk okX12_decides 0 rfl) 0 rfl rfl ?_
  refine J_iconst (v := 0) (dk okX12_decides 1 rfl) (by decide) ?_
  refine J_put (dk okX12_decides 2 rfl) kpX12_3 ds_49 rfl rfl rfl ?_
  refine J_nm (fun μ1 eμ1 => ?_)
  have t := t μ1 eμ1
  refine J_aload_n (dk okX12_decides 3 rfl) 0 rfl rfl ?_
  obtain ⟨s2, t⟩ := t
  refine J_callVv (As := []) (dk okX12_decides 4 rfl) ds_49 rfl vkX12_goesToNoon lkX12_349 rfl rfl (Nat.le_of_ble_eq_true rfl) (by decide) (con_X12_goesToNoon s2 ⟨rfl, ?_⟩)
  refine J_nm (fun μ3 eμ3 => ?_)
  have t := t μ3 eμ3
  refine J_aload_n (dk okX12_decides 5 rfl) 0 rfl rfl ?_
  refine J_iconst (v := 0) (dk okX12_decides 6 rfl) (by decide) ?_
  refine J_put (dk okX12_decides 7 rfl) kpX12_15 ds_49 rfl rfl rfl ?_
  refine J_nm (fun μ4 eμ4 => ?_)
  have t := t μ4 eμ4
  refine J_aload_n (dk okX12_decides 8 rfl) 0 rfl rfl ?_
  refine J_sipush (v := 2000) (dk okX12_decides 9 rfl) (by decide) ?_
  refine J_aload_n (dk okX12_decides 10 rfl) 0 rfl rfl ?_
  refine J_aload_n (dk okX12_decides 11 rfl) 0 rfl rfl ?_
  refine J_getR (dk okX12_decides 12 rfl) kfX12_35 ds_49 rfl ?_
  obtain ⟨s5, t⟩ := t
  refine J_callVi (As := [rf E 53]) (dk okX12_decides 13 rfl) ds_49 rfl vkX12_moment lkX12_275 rfl rfl (Nat.le_of_ble_eq_true rfl) (by decide) (con_X12_moment ds_53 s5 ⟨_, rfl, ?_⟩)
  refine J_nm (fun μ6 eμ6 => ?_)
  have t := t μ6 eμ6
  refine J_iadd (dk okX12_decides 14 rfl) ?_
  refine J_i2l (dk okX12_decides 15 rfl) ?_
  obtain ⟨s7, t⟩ := t
  refine J_callVv (As := [.long (Int32.toInt64 (2000 + (v_X12_moment 53 μ4)))]) (dk okX12_decides 16 rfl) ds_49 rfl vkX12_enters lkX12_18 rfl rfl (Nat.le_of_ble_eq_true rfl) (by decide) (con_X12_enters s7 ⟨rfl, ?_⟩)
  refine J_nm (fun μ8 eμ8 => ?_)
  have t := t μ8 eμ8
  refine J_aload_n (dk okX12_decides 17 rfl) 0 rfl rfl ?_
  obtain ⟨s9, t⟩ := t
  refine J_callVv (As := []) (dk okX12_decides 18 rfl) ds_49 rfl vkX12_entersPlaces lkX12_352 rfl rfl (Nat.le_of_ble_eq_true rfl) (by decide) (con_X12_entersPlaces s9 ⟨rfl, ?_⟩)
  refine J_nm (fun μ10 eμ10 => ?_)
  have t := t μ10 eμ10
  refine J_aload_n (dk okX12_decides 19 rfl) 0 rfl rfl ?_
  refine J_aload_n (dk okX12_decides 20 rfl) 0 rfl rfl ?_
  refine J_getR (dk okX12_decides 21 rfl) kfX12_35 ds_49 rfl ?_
  have s11 := t
  refine J_callVi (As := [rf E 53]) (dk okX12_decides 22 rfl) ds_49 rfl vkX12_moment lkX12_275 rfl rfl (Nat.le_of_ble_eq_true rfl) (by decide) (con_X12_moment ds_53 s11 ⟨_, rfl, ?_⟩)
  refine J_nm (fun μ12 eμ12 => ?_)
  refine J_callSi (As := [.int (v_X12_moment 53 μ10)]) (dk okX12_decides 23 rfl) skX12_side lkX12_260 rfl rfl (Nat.le_of_ble_eq_true rfl) (by decide) (con_X12_side  ⟨_, rfl, ?_⟩)
  subst eμ12 eμ10 eμ8 eμ6 eμ4 eμ3 eμ1
  exact J_iret (dk okX12_decides 24 rfl) rfl k
noncomputable def bd_X12_looks_65  (x2 : Int32) (x3 : Int32) (x4 : Int32) (x5 : Int32) (x6 : Int32) (x7 : Int32) (x8 : Int32) (x9 : Int32) (μ : Mm) : (Int32 × Int32 × Int32 × Int32 × Int32 × Int32 × Int32 × Int32 × Mm) ⊕ (Int32 × Int32 × Int32 × Int32 × Int32 × Int32 × Int32 × Mm) := (if 19 ≤ x9 then .inr (x2, x3, x4, x5, x6, x7, x8, μ) else .inl (x2, x3, x4, x5, x6, x7, (x8 + (v_X12_flag (if (v_X12_has x2 x9 μ) = 0 then 0 else (if (μ.1 70 (Int32.toNatClampNeg (v_X12_page x9 x5 μ))) = x7 then 1 else 0 : Int32) : Int32) μ)), (x9 + 1), μ))
def sd_X12_looks_65   (x2 : Int32) (x3 : Int32) (x4 : Int32) (x5 : Int32) (x6 : Int32) (x7 : Int32) (x8 : Int32) (x9 : Int32) (μ : Mm) : Prop := (¬ (19 ≤ x9) → (¬ ((v_X12_has x2 x9 μ) = 0) → vp_in (v_X12_page x9 x5 μ) 399))
set_option maxRecDepth 20000 in
set_option maxHeartbeats 4000000 in
theorem lw_X12_looks_65 {E : Ex} {G : Gx} {Q : Option Value → Mm → Prop} {x2 : Int32} {x3 : Int32} {x4 : Int32} {x5 : Int32} {x6 : Int32} {x7 : Int32} {x8 : Int32} {x9 : Int32} {μ : Mm}  (p : whP (fun s : Int32 × Int32 × Int32 × Int32 × Int32 × Int32 × Int32 × Int32 × Mm => bd_X12_looks_65  s.1 s.2.1 s.2.2.1 s.2.2.2.1 s.2.2.2.2.1 s.2.2.2.2.2.1 s.2.2.2.2.2.2.1 s.2.2.2.2.2.2.2.1 s.2.2.2.2.2.2.2.2) (fun s : Int32 × Int32 × Int32 × Int32 × Int32 × Int32 × Int32 × Int32 × Mm => sd_X12_looks_65   s.1 s.2.1 s.2.2.1 s.2.2.2.1 s.2.2.2.2.1 s.2.2.2.2.2.1 s.2.2.2.2.2.2.1 s.2.2.2.2.2.2.2.1 s.2.2.2.2.2.2.2.2) FU (x2, x3, x4, x5, x6, x7, x8, x9, μ)) (k : ∀ r : Int32 × Int32 × Int32 × Int32 × Int32 × Int32 × Int32 × Mm, r = whl (fun s : Int32 × Int32 × Int32 × Int32 × Int32 × Int32 × Int32 × Int32 × Mm => bd_X12_looks_65  s.1 s.2.1 s.2.2.1 s.2.2.2.1 s.2.2.2.2.1 s.2.2.2.2.2.1 s.2.2.2.2.2.2.1 s.2.2.2.2.2.2.2.1 s.2.2.2.2.2.2.2.2) (0, 0, 0, 0, 0, 0, 0, m00) FU (x2, x3, x4, x5, x6, x7, x8, x9, μ) → J E G 8 mX12_looks Q 117 [(0, rf E 49), (2, .int (r.1)), (3, .int (r.2.1)), (4, .int (r.2.2.1)), (5, .int (r.2.2.2.1)), (6, .int (r.2.2.2.2.1)), (7, .int (r.2.2.2.2.2.1)), (8, .int (r.2.2.2.2.2.2.1))] [] (r.2.2.2.2.2.2.2)) : J E G 8 mX12_looks Q 65 [(0, rf E 49), (2, .int x2), (3, .int x3), (4, .int x4), (5, .int x5), (6, .int x6), (7, .int x7), (8, .int x8), (9, .int x9)] [] μ := by
  refine J_whl (f := (fun s : Int32 × Int32 × Int32 × Int32 × Int32 × Int32 × Int32 × Int32 × Mm => bd_X12_looks_65  s.1 s.2.1 s.2.2.1 s.2.2.2.1 s.2.2.2.2.1 s.2.2.2.2.2.1 s.2.2.2.2.2.2.1 s.2.2.2.2.2.2.2.1 s.2.2.2.2.2.2.2.2)) (dd := (0, 0, 0, 0, 0, 0, 0, m00)) (sd := (fun s : Int32 × Int32 × Int32 × Int32 × Int32 × Int32 × Int32 × Int32 × Mm => sd_X12_looks_65   s.1 s.2.1 s.2.2.1 s.2.2.2.1 s.2.2.2.2.1 s.2.2.2.2.2.1 s.2.2.2.2.2.2.1 s.2.2.2.2.2.2.2.1 s.2.2.2.2.2.2.2.2)) (P := fun s : Int32 × Int32 × Int32 × Int32 × Int32 × Int32 × Int32 × Int32 × Mm => J E G 8 mX12_looks Q 65 [(0, rf E 49), (2, .int (s.1)), (3, .int (s.2.1)), (4, .int (s.2.2.1)), (5, .int (s.2.2.2.1)), (6, .int (s.2.2.2.2.1)), (7, .int (s.2.2.2.2.2.1)), (8, .int (s.2.2.2.2.2.2.1)), (9, .int (s.2.2.2.2.2.2.2.1))] [] (s.2.2.2.2.2.2.2.2)) (R := fun r : Int32 × Int32 × Int32 × Int32 × Int32 × Int32 × Int32 × Mm => J E G 8 mX12_looks Q 117 [(0, rf E 49), (2, .int (r.1)), (3, .int (r.2.1)), (4, .int (r.2.2.1)), (5, .int (r.2.2.2.1)), (6, .int (r.2.2.2.2.1)), (7, .int (r.2.2.2.2.2.1)), (8, .int (r.2.2.2.2.2.2.1))] [] (r.2.2.2.2.2.2.2)) ?_ FU (x2, x3, x4, x5, x6, x7, x8, x9, μ) p (k _ rfl)
  clear p k
  rintro ⟨x2, x3, x4, x5, x6, x7, x8, x9, μ⟩ t k1 k2
  dsimp only [sd_X12_looks_65] at t
  have kb : ∀ (y2 : Int32) (y3 : Int32) (y4 : Int32) (y5 : Int32) (y6 : Int32) (y7 : Int32) (y8 : Int32) (y9 : Int32) (μ9 : Mm), bd_X12_looks_65  x2 x3 x4 x5 x6 x7 x8 x9 μ = .inl (y2, y3, y4, y5, y6, y7, y8, y9, μ9) → J E G 8 mX12_looks Q 65 [(0, rf E 49), (2, .int y2), (3, .int y3), (4, .int y4), (5, .int y5), (6, .int y6), (7, .int y7), (8, .int y8), (9, .int y9)] [] μ9 := fun y2 y3 y4 y5 y6 y7 y8 y9 μ9 h => k1 (y2, y3, y4, y5, y6, y7, y8, y9, μ9) h
  have kx : ∀ (y2 : Int32) (y3 : Int32) (y4 : Int32) (y5 : Int32) (y6 : Int32) (y7 : Int32) (y8 : Int32) (μ9 : Mm), bd_X12_looks_65  x2 x3 x4 x5 x6 x7 x8 x9 μ = .inr (y2, y3, y4, y5, y6, y7, y8, μ9) → J E G 8 mX12_looks Q 117 [(0, rf E 49), (2, .int y2), (3, .int y3), (4, .int y4), (5, .int y5), (6, .int y6), (7, .int y7), (8, .int y8)] [] μ9 := fun y2 y3 y4 y5 y6 y7 y8 μ9 h => k2 (y2, y3, y4, y5, y6, y7, y8, μ9) h
  clear k1 k2
  refine J_iload (dk okX12_looks 37 rfl) 8 rfl ?_
  refine J_bipush (v := 19) (dk okX12_looks 38 rfl) (by decide) ?_
  refine J_icmp_ge (tgt := 117) (dk okX12_looks 39 rfl) (by decide) (fun h1 => ?_) (fun h1 => ?_)
  · exact J_sub [0, 1, 2, 3, 4, 5, 6, 7] rfl (kx x2 x3 x4 x5 x6 x7 x8 μ (by unfold bd_X12_looks_65; first | (simp only [if_pos h1]; done) | (simp only [if_pos h1]; rfl) | rfl))
  · have t := t h1
    refine J_iload (dk okX12_looks 40 rfl) 7 rfl ?_
    refine J_iload_n (dk okX12_looks 41 rfl) 1 rfl rfl ?_
    refine J_iload (dk okX12_looks 42 rfl) 8 rfl ?_
    refine J_callSi (As := [.int x2, .int x9]) (dk okX12_looks 43 rfl) skX12_has lkX12_126 rfl rfl (Nat.le_of_ble_eq_true rfl) (by decide) (con_X12_has  ⟨_, rfl, ?_⟩)
    have K5 : J E G 8 mX12_looks Q 105 [(0, rf E 49), (2, .int x2), (3, .int x3), (4, .int x4), (5, .int x5), (6, .int x6), (7, .int x7), (9, .int x9)] [.int (if (v_X12_has x2 x9 μ) = 0 then 0 else (if (μ.1 70 (Int32.toNatClampNeg (v_X12_page x9 x5 μ))) = x7 then 1 else 0 : Int32) : Int32), .int x8] μ := by
      refine J_callSi (As := [.int (if (v_X12_has x2 x9 μ) = 0 then 0 else (if (μ.1 70 (Int32.toNatClampNeg (v_X12_page x9 x5 μ))) = x7 then 1 else 0 : Int32) : Int32)]) (dk okX12_looks 56 rfl) skX12_flag lkX12_137 rfl rfl (Nat.le_of_ble_eq_true rfl) (by decide) (con_X12_flag  ⟨_, rfl, ?_⟩)
      refine J_iadd (dk okX12_looks 57 rfl) ?_
      refine J_istore (ls' := [(8, _), (0, _), (2, _), (3, _), (4, _), (5, _), (6, _), (7, _), (9, _)]) (dk okX12_looks 58 rfl) (by decide) rfl ?_
      refine J_iinc (v := (x9 + 1)) (ls' := [(9, _), (8, _), (0, _), (2, _), (3, _), (4, _), (5, _), (6, _), (7, _)]) (dk okX12_looks 59 rfl) 8 rfl rfl (by decide) rfl ?_
      refine J_goto (tgt := 65) (dk okX12_looks 60 rfl) (by decide) ?_
      exact J_sub [2, 3, 4, 5, 6, 7, 8, 1, 0] rfl (kb x2 x3 x4 x5 x6 x7 (x8 + (v_X12_flag (if (v_X12_has x2 x9 μ) = 0 then 0 else (if (μ.1 70 (Int32.toNatClampNeg (v_X12_page x9 x5 μ))) = x7 then 1 else 0 : Int32) : Int32) μ)) (x9 + 1) μ (by unfold bd_X12_looks_65; first | (simp only [if_neg h1]; done) | (simp only [if_neg h1]; rfl) | rfl))
    refine J_if_eq (tgt := 104) (dk okX12_looks 44 rfl) (by decide) (fun h2 => ?_) (fun h2 => ?_)
    · refine J_iconst (v := 0) (dk okX12_looks 55 rfl) (by decide) ?_
      refine J_sub (ls' := [(0, _), (2, _), (3, _), (4, _), (5, _), (6, _), (7, _), (9, _)]) [0, 1, 2, 3, 4, 5, 6, 8] rfl ?_
      (try simp only [if_pos h2] at K5 ⊢); exact K5
    · have t := t h2
      refine J_aload_n (dk okX12_looks 45 rfl) 0 rfl rfl ?_
      refine J_getR (dk okX12_looks 46 rfl) kfX12_86 ds_49 rfl ?_
      refine J_iload (dk okX12_looks 47 rfl) 8 rfl ?_
      refine J_iload (dk okX12_looks 48 rfl) 4 rfl ?_
      refine J_callSi (As := [.int x9, .int x5]) (dk okX12_looks 49 rfl) skX12_page lkX12_394 rfl rfl (Nat.le_of_ble_eq_true rfl) (by decide) (con_X12_page  ⟨_, rfl, ?_⟩)
      have s3 := t
      refine J_iald (dk okX12_looks 50 rfl) ds_70 s3 ?_
      refine J_iload (dk okX12_looks 51 rfl) 6 rfl ?_
      refine J_icmp_ne (tgt := 104) (dk okX12_looks 52 rfl) (by decide) (fun h4 => ?_) (fun h4 => ?_)
      · refine J_iconst (v := 0) (dk okX12_looks 55 rfl) (by decide) ?_
        refine J_sub (ls' := [(0, _), (2, _), (3, _), (4, _), (5, _), (6, _), (7, _), (9, _)]) [0, 1, 2, 3, 4, 5, 6, 8] rfl ?_
        (try simp only [if_neg h2, if_neg h4] at K5 ⊢); exact K5
      · refine J_iconst (v := 1) (dk okX12_looks 53 rfl) (by decide) ?_
        refine J_goto (tgt := 105) (dk okX12_looks 54 rfl) (by decide) ?_
        refine J_sub (ls' := [(0, _), (2, _), (3, _), (4, _), (5, _), (6, _), (7, _), (9, _)]) [0, 1, 2, 3, 4, 5, 6, 8] rfl ?_
        (try simp only [if_neg h2, if_pos h4] at K5 ⊢); exact K5
noncomputable def bd_X12_looks_52  (x2 : Int32) (x3 : Int32) (x4 : Int32) (x5 : Int32) (x6 : Int32) (x7 : Int32) (μ : Mm) : (Int32 × Int32 × Int32 × Int32 × Int32 × Int32 × Mm) ⊕ (Int32 × Int32 × Int32 × Int32 × Int32 × Mm) := (if 9 < x7 then .inr (x2, x3, x4, x5, x6, μ) else (let r3 : Int32 × Int32 × Int32 × Int32 × Int32 × Int32 × Int32 × Mm := whl (fun s : Int32 × Int32 × Int32 × Int32 × Int32 × Int32 × Int32 × Int32 × Mm => bd_X12_looks_65  s.1 s.2.1 s.2.2.1 s.2.2.2.1 s.2.2.2.2.1 s.2.2.2.2.2.1 s.2.2.2.2.2.2.1 s.2.2.2.2.2.2.2.1 s.2.2.2.2.2.2.2.2) (0, 0, 0, 0, 0, 0, 0, m00) FU (x2, x3, x4, x5, x6, x7, 0, 0, μ); .inl ((r3.1), (r3.2.1), (r3.2.2.1), (r3.2.2.2.1), (if (r3.2.2.2.2.1) < (r3.2.2.2.2.2.2.1) then (r3.2.2.2.2.2.2.1) else (r3.2.2.2.2.1)), ((r3.2.2.2.2.2.1) + 1), (r3.2.2.2.2.2.2.2))))
def sd_X12_looks_52   (x2 : Int32) (x3 : Int32) (x4 : Int32) (x5 : Int32) (x6 : Int32) (x7 : Int32) (μ : Mm) : Prop := (¬ (9 < x7) → whP (fun s : Int32 × Int32 × Int32 × Int32 × Int32 × Int32 × Int32 × Int32 × Mm => bd_X12_looks_65  s.1 s.2.1 s.2.2.1 s.2.2.2.1 s.2.2.2.2.1 s.2.2.2.2.2.1 s.2.2.2.2.2.2.1 s.2.2.2.2.2.2.2.1 s.2.2.2.2.2.2.2.2) (fun s : Int32 × Int32 × Int32 × Int32 × Int32 × Int32 × Int32 × Int32 × Mm => sd_X12_looks_65   s.1 s.2.1 s.2.2.1 s.2.2.2.1 s.2.2.2.2.1 s.2.2.2.2.2.1 s.2.2.2.2.2.2.1 s.2.2.2.2.2.2.2.1 s.2.2.2.2.2.2.2.2) FU (x2, x3, x4, x5, x6, x7, 0, 0, μ))
set_option maxRecDepth 20000 in
set_option maxHeartbeats 4000000 in
theorem lw_X12_looks_52 {E : Ex} {G : Gx} {Q : Option Value → Mm → Prop} {x2 : Int32} {x3 : Int32} {x4 : Int32} {x5 : Int32} {x6 : Int32} {x7 : Int32} {μ : Mm}  (p : whP (fun s : Int32 × Int32 × Int32 × Int32 × Int32 × Int32 × Mm => bd_X12_looks_52  s.1 s.2.1 s.2.2.1 s.2.2.2.1 s.2.2.2.2.1 s.2.2.2.2.2.1 s.2.2.2.2.2.2) (fun s : Int32 × Int32 × Int32 × Int32 × Int32 × Int32 × Mm => sd_X12_looks_52   s.1 s.2.1 s.2.2.1 s.2.2.2.1 s.2.2.2.2.1 s.2.2.2.2.2.1 s.2.2.2.2.2.2) FU (x2, x3, x4, x5, x6, x7, μ)) (k : ∀ r : Int32 × Int32 × Int32 × Int32 × Int32 × Mm, r = whl (fun s : Int32 × Int32 × Int32 × Int32 × Int32 × Int32 × Mm => bd_X12_looks_52  s.1 s.2.1 s.2.2.1 s.2.2.2.1 s.2.2.2.2.1 s.2.2.2.2.2.1 s.2.2.2.2.2.2) (0, 0, 0, 0, 0, m00) FU (x2, x3, x4, x5, x6, x7, μ) → J E G 8 mX12_looks Q 132 [(0, rf E 49), (2, .int (r.1)), (3, .int (r.2.1)), (4, .int (r.2.2.1)), (5, .int (r.2.2.2.1)), (6, .int (r.2.2.2.2.1))] [] (r.2.2.2.2.2)) : J E G 8 mX12_looks Q 52 [(0, rf E 49), (2, .int x2), (3, .int x3), (4, .int x4), (5, .int x5), (6, .int x6), (7, .int x7)] [] μ := by
  refine J_whl (f := (fun s : Int32 × Int32 × Int32 × Int32 × Int32 × Int32 × Mm => bd_X12_looks_52  s.1 s.2.1 s.2.2.1 s.2.2.2.1 s.2.2.2.2.1 s.2.2.2.2.2.1 s.2.2.2.2.2.2)) (dd := (0, 0, 0, 0, 0, m00)) (sd := (fun s : Int32 × Int32 × Int32 × Int32 × Int32 × Int32 × Mm => sd_X12_looks_52   s.1 s.2.1 s.2.2.1 s.2.2.2.1 s.2.2.2.2.1 s.2.2.2.2.2.1 s.2.2.2.2.2.2)) (P := fun s : Int32 × Int32 × Int32 × Int32 × Int32 × Int32 × Mm => J E G 8 mX12_looks Q 52 [(0, rf E 49), (2, .int (s.1)), (3, .int (s.2.1)), (4, .int (s.2.2.1)), (5, .int (s.2.2.2.1)), (6, .int (s.2.2.2.2.1)), (7, .int (s.2.2.2.2.2.1))] [] (s.2.2.2.2.2.2)) (R := fun r : Int32 × Int32 × Int32 × Int32 × Int32 × Mm => J E G 8 mX12_looks Q 132 [(0, rf E 49), (2, .int (r.1)), (3, .int (r.2.1)), (4, .int (r.2.2.1)), (5, .int (r.2.2.2.1)), (6, .int (r.2.2.2.2.1))] [] (r.2.2.2.2.2)) ?_ FU (x2, x3, x4, x5, x6, x7, μ) p (k _ rfl)
  clear p k
  rintro ⟨x2, x3, x4, x5, x6, x7, μ⟩ t k1 k2
  dsimp only [sd_X12_looks_52] at t
  have kb : ∀ (y2 : Int32) (y3 : Int32) (y4 : Int32) (y5 : Int32) (y6 : Int32) (y7 : Int32) (μ9 : Mm), bd_X12_looks_52  x2 x3 x4 x5 x6 x7 μ = .inl (y2, y3, y4, y5, y6, y7, μ9) → J E G 8 mX12_looks Q 52 [(0, rf E 49), (2, .int y2), (3, .int y3), (4, .int y4), (5, .int y5), (6, .int y6), (7, .int y7)] [] μ9 := fun y2 y3 y4 y5 y6 y7 μ9 h => k1 (y2, y3, y4, y5, y6, y7, μ9) h
  have kx : ∀ (y2 : Int32) (y3 : Int32) (y4 : Int32) (y5 : Int32) (y6 : Int32) (μ9 : Mm), bd_X12_looks_52  x2 x3 x4 x5 x6 x7 μ = .inr (y2, y3, y4, y5, y6, μ9) → J E G 8 mX12_looks Q 132 [(0, rf E 49), (2, .int y2), (3, .int y3), (4, .int y4), (5, .int y5), (6, .int y6)] [] μ9 := fun y2 y3 y4 y5 y6 μ9 h => k2 (y2, y3, y4, y5, y6, μ9) h
  clear k1 k2
  refine J_iload (dk okX12_looks 30 rfl) 6 rfl ?_
  refine J_bipush (v := 9) (dk okX12_looks 31 rfl) (by decide) ?_
  refine J_icmp_gt (tgt := 132) (dk okX12_looks 32 rfl) (by decide) (fun h1 => ?_) (fun h1 => ?_)
  · exact J_sub [0, 1, 2, 3, 4, 5] rfl (kx x2 x3 x4 x5 x6 μ (by unfold bd_X12_looks_52; first | (simp only [if_pos h1]; done) | (simp only [if_pos h1]; rfl) | rfl))
  · have t := t h1
    refine J_iconst (v := 0) (dk okX12_looks 33 rfl) (by decide) ?_
    refine J_istore (ls' := [(8, _), (0, _), (2, _), (3, _), (4, _), (5, _), (6, _), (7, _)]) (dk okX12_looks 34 rfl) (by decide) rfl ?_
    refine J_iconst (v := 0) (dk okX12_looks 35 rfl) (by decide) ?_
    refine J_istore (ls' := [(9, _), (8, _), (0, _), (2, _), (3, _), (4, _), (5, _), (6, _), (7, _)]) (dk okX12_looks 36 rfl) (by decide) rfl ?_
    have s2 := t
    refine J_sub (ls' := [(0, _), (2, _), (3, _), (4, _), (5, _), (6, _), (7, _), (8, _), (9, _)]) [2, 3, 4, 5, 6, 7, 8, 1, 0] rfl ?_
    refine lw_X12_looks_65  s2 (fun r3 er3 => ?_)
    refine J_iload (dk okX12_looks 61 rfl) 5 rfl ?_
    refine J_iload (dk okX12_looks 62 rfl) 7 rfl ?_
    refine J_mmax (dk okX12_looks 63 rfl) lkX12_284 mk_max_s mk_Math mk_max_c (by decide) (Nat.le_of_ble_eq_true rfl) ?_
    refine J_istore (ls' := [(6, _), (0, _), (2, _), (3, _), (4, _), (5, _), (7, _), (8, _)]) (dk okX12_looks 64 rfl) (by decide) rfl ?_
    refine J_iinc (v := ((r3.2.2.2.2.2.1) + 1)) (ls' := [(7, _), (6, _), (0, _), (2, _), (3, _), (4, _), (5, _), (8, _)]) (dk okX12_looks 65 rfl) 6 rfl rfl (by decide) rfl ?_
    refine J_goto (tgt := 52) (dk okX12_looks 66 rfl) (by decide) ?_
    exact J_sub [2, 3, 4, 5, 6, 1, 0] rfl (kb (r3.1) (r3.2.1) (r3.2.2.1) (r3.2.2.2.1) (if (r3.2.2.2.2.1) < (r3.2.2.2.2.2.2.1) then (r3.2.2.2.2.2.2.1) else (r3.2.2.2.2.1)) ((r3.2.2.2.2.2.1) + 1) (r3.2.2.2.2.2.2.2) (by subst er3; unfold bd_X12_looks_52; first | (simp only [if_neg h1]; done) | (simp only [if_neg h1]; rfl) | rfl))
noncomputable def bd_X12_looks_38  (x2 : Int32) (x3 : Int32) (x4 : Int32) (x5 : Int32) (μ : Mm) : (Int32 × Int32 × Int32 × Int32 × Mm) ⊕ (Int32 × Int32 × Mm) := (if 20 < x5 then .inr (x3, x4, μ) else (let r3 : Int32 × Int32 × Int32 × Int32 × Int32 × Mm := whl (fun s : Int32 × Int32 × Int32 × Int32 × Int32 × Int32 × Mm => bd_X12_looks_52  s.1 s.2.1 s.2.2.1 s.2.2.2.1 s.2.2.2.2.1 s.2.2.2.2.2.1 s.2.2.2.2.2.2) (0, 0, 0, 0, 0, m00) FU (x2, x3, x4, x5, 0, (-9), μ); .inl ((r3.1), (if (r3.2.2.1) ≤ (r3.2.2.2.2.1) then (r3.2.1) else (r3.2.2.2.1) : Int32), (if (r3.2.2.2.2.1) < (r3.2.2.1) then (r3.2.2.2.2.1) else (r3.2.2.1)), ((r3.2.2.2.1) + 1), (r3.2.2.2.2.2))))
def sd_X12_looks_38   (x2 : Int32) (x3 : Int32) (x4 : Int32) (x5 : Int32) (μ : Mm) : Prop := (¬ (20 < x5) → whP (fun s : Int32 × Int32 × Int32 × Int32 × Int32 × Int32 × Mm => bd_X12_looks_52  s.1 s.2.1 s.2.2.1 s.2.2.2.1 s.2.2.2.2.1 s.2.2.2.2.2.1 s.2.2.2.2.2.2) (fun s : Int32 × Int32 × Int32 × Int32 × Int32 × Int32 × Mm => sd_X12_looks_52   s.1 s.2.1 s.2.2.1 s.2.2.2.1 s.2.2.2.2.1 s.2.2.2.2.2.1 s.2.2.2.2.2.2) FU (x2, x3, x4, x5, 0, (-9), μ))
set_option maxRecDepth 20000 in
set_option maxHeartbeats 4000000 in
theorem lw_X12_looks_38 {E : Ex} {G : Gx} {Q : Option Value → Mm → Prop} {x2 : Int32} {x3 : Int32} {x4 : Int32} {x5 : Int32} {μ : Mm}  (p : whP (fun s : Int32 × Int32 × Int32 × Int32 × Mm => bd_X12_looks_38  s.1 s.2.1 s.2.2.1 s.2.2.2.1 s.2.2.2.2) (fun s : Int32 × Int32 × Int32 × Int32 × Mm => sd_X12_looks_38   s.1 s.2.1 s.2.2.1 s.2.2.2.1 s.2.2.2.2) FU (x2, x3, x4, x5, μ)) (k : ∀ r : Int32 × Int32 × Mm, r = whl (fun s : Int32 × Int32 × Int32 × Int32 × Mm => bd_X12_looks_38  s.1 s.2.1 s.2.2.1 s.2.2.2.1 s.2.2.2.2) (0, 0, m00) FU (x2, x3, x4, x5, μ) → J E G 8 mX12_looks Q 161 [(0, rf E 49), (3, .int (r.1)), (4, .int (r.2.1))] [] (r.2.2)) : J E G 8 mX12_looks Q 38 [(0, rf E 49), (2, .int x2), (3, .int x3), (4, .int x4), (5, .int x5)] [] μ := by
  refine J_whl (f := (fun s : Int32 × Int32 × Int32 × Int32 × Mm => bd_X12_looks_38  s.1 s.2.1 s.2.2.1 s.2.2.2.1 s.2.2.2.2)) (dd := (0, 0, m00)) (sd := (fun s : Int32 × Int32 × Int32 × Int32 × Mm => sd_X12_looks_38   s.1 s.2.1 s.2.2.1 s.2.2.2.1 s.2.2.2.2)) (P := fun s : Int32 × Int32 × Int32 × Int32 × Mm => J E G 8 mX12_looks Q 38 [(0, rf E 49), (2, .int (s.1)), (3, .int (s.2.1)), (4, .int (s.2.2.1)), (5, .int (s.2.2.2.1))] [] (s.2.2.2.2)) (R := fun r : Int32 × Int32 × Mm => J E G 8 mX12_looks Q 161 [(0, rf E 49), (3, .int (r.1)), (4, .int (r.2.1))] [] (r.2.2)) ?_ FU (x2, x3, x4, x5, μ) p (k _ rfl)
  clear p k
  rintro ⟨x2, x3, x4, x5, μ⟩ t k1 k2
  dsimp only [sd_X12_looks_38] at t
  have kb : ∀ (y2 : Int32) (y3 : Int32) (y4 : Int32) (y5 : Int32) (μ9 : Mm), bd_X12_looks_38  x2 x3 x4 x5 μ = .inl (y2, y3, y4, y5, μ9) → J E G 8 mX12_looks Q 38 [(0, rf E 49), (2, .int y2), (3, .int y3), (4, .int y4), (5, .int y5)] [] μ9 := fun y2 y3 y4 y5 μ9 h => k1 (y2, y3, y4, y5, μ9) h
  have kx : ∀ (y3 : Int32) (y4 : Int32) (μ9 : Mm), bd_X12_looks_38  x2 x3 x4 x5 μ = .inr (y3, y4, μ9) → J E G 8 mX12_looks Q 161 [(0, rf E 49), (3, .int y3), (4, .int y4)] [] μ9 := fun y3 y4 μ9 h => k2 (y3, y4, μ9) h
  clear k1 k2
  refine J_iload (dk okX12_looks 23 rfl) 4 rfl ?_
  refine J_bipush (v := 20) (dk okX12_looks 24 rfl) (by decide) ?_
  refine J_icmp_gt (tgt := 161) (dk okX12_looks 25 rfl) (by decide) (fun h1 => ?_) (fun h1 => ?_)
  · exact J_sub [0, 2, 3] rfl (kx x3 x4 μ (by unfold bd_X12_looks_38; first | (simp only [if_pos h1]; done) | (simp only [if_pos h1]; rfl) | rfl))
  · have t := t h1
    refine J_iconst (v := 0) (dk okX12_looks 26 rfl) (by decide) ?_
    refine J_istore (ls' := [(6, _), (0, _), (2, _), (3, _), (4, _), (5, _)]) (dk okX12_looks 27 rfl) (by decide) rfl ?_
    refine J_bipush (v := (-9)) (dk okX12_looks 28 rfl) (by decide) ?_
    refine J_istore (ls' := [(7, _), (6, _), (0, _), (2, _), (3, _), (4, _), (5, _)]) (dk okX12_looks 29 rfl) (by decide) rfl ?_
    have s2 := t
    refine J_sub (ls' := [(0, _), (2, _), (3, _), (4, _), (5, _), (6, _), (7, _)]) [2, 3, 4, 5, 6, 1, 0] rfl ?_
    refine lw_X12_looks_52  s2 (fun r3 er3 => ?_)
    refine J_iload (dk okX12_looks 67 rfl) 5 rfl ?_
    refine J_iload (dk okX12_looks 68 rfl) 3 rfl ?_
    have K5 : J E G 8 mX12_looks Q 145 [(0, rf E 49), (2, .int (r3.1)), (4, .int (r3.2.2.1)), (5, .int (r3.2.2.2.1)), (6, .int (r3.2.2.2.2.1))] [.int (if (r3.2.2.1) ≤ (r3.2.2.2.2.1) then (r3.2.1) else (r3.2.2.2.1) : Int32)] (r3.2.2.2.2.2) := by
      refine J_istore_n (ls' := [(3, _), (0, _), (2, _), (4, _), (5, _), (6, _)]) (dk okX12_looks 73 rfl) rfl (by decide) rfl ?_
      refine J_iload (dk okX12_looks 74 rfl) 3 rfl ?_
      refine J_iload (dk okX12_looks 75 rfl) 5 rfl ?_
      refine J_mmin (dk okX12_looks 76 rfl) lkX12_150 mk_min_s mk_Math mk_min_c (by decide) (Nat.le_of_ble_eq_true rfl) ?_
      refine J_istore (ls' := [(4, _), (3, _), (0, _), (2, _), (5, _), (6, _)]) (dk okX12_looks 77 rfl) (by decide) rfl ?_
      refine J_iinc (v := ((r3.2.2.2.1) + 1)) (ls' := [(5, _), (4, _), (3, _), (0, _), (2, _), (6, _)]) (dk okX12_looks 78 rfl) 4 rfl rfl (by decide) rfl ?_
      refine J_goto (tgt := 38) (dk okX12_looks 79 rfl) (by decide) ?_
      exact J_sub [3, 4, 2, 1, 0] rfl (kb (r3.1) (if (r3.2.2.1) ≤ (r3.2.2.2.2.1) then (r3.2.1) else (r3.2.2.2.1) : Int32) (if (r3.2.2.2.2.1) < (r3.2.2.1) then (r3.2.2.2.2.1) else (r3.2.2.1)) ((r3.2.2.2.1) + 1) (r3.2.2.2.2.2) (by subst er3; unfold bd_X12_looks_38; first | (simp only [if_neg h1]; done) | (simp only [if_neg h1]; rfl) | rfl))
    refine J_icmp_ge (tgt := 144) (dk okX12_looks 69 rfl) (by decide) (fun h4 => ?_) (fun h4 => ?_)
    · refine J_iload_n (dk okX12_looks 72 rfl) 2 rfl rfl ?_
      refine J_sub (ls' := [(0, _), (2, _), (4, _), (5, _), (6, _)]) [0, 1, 3, 4, 5] rfl ?_
      (try simp only [if_pos h4] at K5 ⊢); exact K5
    · refine J_iload (dk okX12_looks 70 rfl) 4 rfl ?_
      refine J_goto (tgt := 145) (dk okX12_looks 71 rfl) (by decide) ?_
      refine J_sub (ls' := [(0, _), (2, _), (4, _), (5, _), (6, _)]) [0, 1, 3, 4, 5] rfl ?_
      (try simp only [if_neg h4] at K5 ⊢); exact K5
/-- VotingFloorModel.looks(I)I -/
noncomputable def v_X12_looks (p0 : Int32) (μ : Mm) : Int32 := (let μ1 : Mm := (upI μ 49 0 0); (if (v_X12_isOne p0 μ1) = 0 then (-1) else (let μ4 : Mm := (e_X12_wishesOf p0 μ1); (if (v_X12_wishesOf p0 μ1) = 0 then (-2) else (let r7 : Int32 × Int32 × Mm := whl (fun s : Int32 × Int32 × Int32 × Int32 × Mm => bd_X12_looks_38  s.1 s.2.1 s.2.2.1 s.2.2.2.1 s.2.2.2.2) (0, 0, m00) FU ((v_X12_wishesOf p0 μ1), (-1), 1000000, 0, μ4); (r7.1))))))
noncomputable def e_X12_looks (p0 : Int32) (μ : Mm) : Mm := (let μ1 : Mm := (upI μ 49 0 0); (if (v_X12_isOne p0 μ1) = 0 then μ1 else (let μ4 : Mm := (e_X12_wishesOf p0 μ1); (if (v_X12_wishesOf p0 μ1) = 0 then μ4 else (let r7 : Int32 × Int32 × Mm := whl (fun s : Int32 × Int32 × Int32 × Int32 × Mm => bd_X12_looks_38  s.1 s.2.1 s.2.2.1 s.2.2.2.1 s.2.2.2.2) (0, 0, m00) FU ((v_X12_wishesOf p0 μ1), (-1), 1000000, 0, μ4); (let μ8 : Mm := (upI (r7.2.2) 49 1 0); (let μ10 : Mm := (e_X12_enters (Int32.toInt64 (r7.2.1)) μ8); μ10)))))))
def p_X12_looks (p0 : Int32)  (μ : Mm) : Prop := (∀ μ1 : Mm, μ1 = (upI μ 49 0 0) → (¬ ((v_X12_isOne p0 μ1) = 0) → (p_X12_wishesOf p0 μ1) ∧ (∀ μ4 : Mm, μ4 = (e_X12_wishesOf p0 μ1) → (¬ ((v_X12_wishesOf p0 μ1) = 0) → (whP (fun s : Int32 × Int32 × Int32 × Int32 × Mm => bd_X12_looks_38  s.1 s.2.1 s.2.2.1 s.2.2.2.1 s.2.2.2.2) (fun s : Int32 × Int32 × Int32 × Int32 × Mm => sd_X12_looks_38   s.1 s.2.1 s.2.2.1 s.2.2.2.1 s.2.2.2.2) FU ((v_X12_wishesOf p0 μ1), (-1), 1000000, 0, μ4)) ∧ (∀ r7 : Int32 × Int32 × Mm, r7 = whl (fun s : Int32 × Int32 × Int32 × Int32 × Mm => bd_X12_looks_38  s.1 s.2.1 s.2.2.1 s.2.2.2.1 s.2.2.2.2) (0, 0, m00) FU ((v_X12_wishesOf p0 μ1), (-1), 1000000, 0, μ4) → (∀ μ8 : Mm, μ8 = (upI (r7.2.2) 49 1 0) → p_X12_enters (Int32.toInt64 (r7.2.1)) μ8))))))
set_option maxRecDepth 20000 in
set_option maxHeartbeats 4000000 in
theorem con_X12_looks {E : Ex} {Q : Option Value → Mm → Prop} {p0 : Int32} {μ : Mm} (t : p_X12_looks p0  μ) (k : Q (some (.int (v_X12_looks p0 μ))) (e_X12_looks p0 μ)) : Con E 8 mX12_looks [rf E 49, .int p0] μ Q := by
  refine Con_J (by decide +kernel) (Nat.le_of_ble_eq_true rfl) (fun G => ?_)
  unfold v_X12_looks e_X12_looks at k
  unfold p_X12_looks at t
  refine J_sub (ls' := [(0, rf E 49), (1, .int p0)]) [0, 1] rfl ?_
  refine J_aload_n (dk okX12_looks 0 rfl) 0 rfl rfl ?_
  refine J_iconst (v := 0) (dk okX12_looks 1 rfl) (by decide) ?_
  refine J_put (dk okX12_looks 2 rfl) kpX12_3 ds_49 rfl rfl rfl ?_
  refine J_nm (fun μ1 eμ1 => ?_)
  have t := t μ1 eμ1
  refine J_aload_n (dk okX12_looks 3 rfl) 0 rfl rfl ?_
  refine J_iload_n (dk okX12_looks 4 rfl) 1 rfl rfl ?_
  refine J_callVi (As := [.int p0]) (dk okX12_looks 5 rfl) ds_49 rfl vkX12_isOne lkX12_267 rfl rfl (Nat.le_of_ble_eq_true rfl) (by decide) (con_X12_isOne  ⟨_, rfl, ?_⟩)
  refine J_if_ne (tgt := 15) (dk okX12_looks 6 rfl) (by decide) (fun h2 => ?_) (fun h2 => ?_)
  · have t := t h2
    refine J_aload_n (dk okX12_looks 9 rfl) 0 rfl rfl ?_
    refine J_iload_n (dk okX12_looks 10 rfl) 1 rfl rfl ?_
    obtain ⟨s3, t⟩ := t
    refine J_callVi (As := [.int p0]) (dk okX12_looks 11 rfl) ds_49 rfl vkX12_wishesOf lkX12_400 rfl rfl (Nat.le_of_ble_eq_true rfl) (by decide) (con_X12_wishesOf s3 ⟨_, rfl, ?_⟩)
    refine J_nm (fun μ4 eμ4 => ?_)
    have t := t μ4 eμ4
    refine J_istore_n (ls' := [(2, _), (0, _), (1, _)]) (dk okX12_looks 12 rfl) rfl (by decide) rfl ?_
    refine J_iload_n (dk okX12_looks 13 rfl) 0 rfl rfl ?_
    refine J_if_ne (tgt := 28) (dk okX12_looks 14 rfl) (by decide) (fun h5 => ?_) (fun h5 => ?_)
    · have t := t h5
      refine J_iconst (v := (-1)) (dk okX12_looks 17 rfl) (by decide) ?_
      refine J_istore_n (ls' := [(3, _), (2, _), (0, _), (1, _)]) (dk okX12_looks 18 rfl) rfl (by decide) rfl ?_
      refine J_ldc_w (v := 1000000) (dk okX12_looks 19 rfl) kcX12_409 ?_
      refine J_istore (ls' := [(4, _), (3, _), (2, _), (0, _), (1, _)]) (dk okX12_looks 20 rfl) (by decide) rfl ?_
      refine J_iconst (v := 0) (dk okX12_looks 21 rfl) (by decide) ?_
      refine J_istore (ls' := [(5, _), (4, _), (3, _), (2, _), (0, _), (1, _)]) (dk okX12_looks 22 rfl) (by decide) rfl ?_
      obtain ⟨s6, t⟩ := t
      refine J_sub (ls' := [(0, _), (2, _), (3, _), (4, _), (5, _)]) [4, 3, 2, 1, 0] rfl ?_
      refine lw_X12_looks_38  s6 (fun r7 er7 => ?_)
      have t := t r7 er7
      refine J_aload_n (dk okX12_looks 80 rfl) 0 rfl rfl ?_
      refine J_iconst (v := 0) (dk okX12_looks 81 rfl) (by decide) ?_
      refine J_put (dk okX12_looks 82 rfl) kpX12_15 ds_49 rfl rfl rfl ?_
      refine J_nm (fun μ8 eμ8 => ?_)
      have t := t μ8 eμ8
      refine J_aload_n (dk okX12_looks 83 rfl) 0 rfl rfl ?_
      refine J_iload (dk okX12_looks 84 rfl) 2 rfl ?_
      refine J_i2l (dk okX12_looks 85 rfl) ?_
      have s9 := t
      refine J_callVv (As := [.long (Int32.toInt64 (r7.2.1))]) (dk okX12_looks 86 rfl) ds_49 rfl vkX12_enters lkX12_18 rfl rfl (Nat.le_of_ble_eq_true rfl) (by decide) (con_X12_enters s9 ⟨rfl, ?_⟩)
      refine J_nm (fun μ10 eμ10 => ?_)
      refine J_iload_n (dk okX12_looks 87 rfl) 1 rfl rfl ?_
      subst eμ10 eμ8 er7 eμ4 eμ1
      (try simp only [if_neg h2, if_neg h5] at k ⊢)
      exact J_iret (dk okX12_looks 88 rfl) rfl k
    · refine J_bipush (v := (-2)) (dk okX12_looks 15 rfl) (by decide) ?_
      subst eμ4 eμ1
      (try simp only [if_neg h2, if_pos h5] at k ⊢)
      exact J_iret (dk okX12_looks 16 rfl) rfl k
  · refine J_iconst (v := (-1)) (dk okX12_looks 7 rfl) (by decide) ?_
    subst eμ1
    (try simp only [if_pos h2] at k ⊢)
    exact J_iret (dk okX12_looks 8 rfl) rfl k
noncomputable def bd_X12_spares_14  (x1 : Int32) (x2 : Int32) (x3 : Int32) (μ : Mm) : (Int32 × Int32 × Int32 × Mm) ⊕ (Int32 × Int32 × Mm) := (if (μ.1 49 3) ≤ x3 then .inr (x1, x2, μ) else (let μ14 : Mm := (if (v_X12_has (v_X12_here 52 μ) x3 μ) = 0 then μ else ((e_X12_moment 53 ((e_X12_moment 53 ((e_X12_goesOn 53 (if 0 < ((((e_X12_stepsOff 53 x3 ((e_X12_copies  μ)))).1 53 (Int32.toNatClampNeg 23)) - (((e_X12_stepsOff 53 x3 ((e_X12_copies  μ)))).1 53 (Int32.toNatClampNeg 22))) then ((((e_X12_stepsOff 53 x3 ((e_X12_copies  μ)))).1 53 (Int32.toNatClampNeg 23)) - (((e_X12_stepsOff 53 x3 ((e_X12_copies  μ)))).1 53 (Int32.toNatClampNeg 22))) else 0) ((e_X12_stepsOff 53 x3 ((e_X12_copies  μ)))))))))) : Mm); .inl ((if (v_X12_has (v_X12_here 52 μ) x3 μ) = 0 then x1 else (if (v_X12_moment 53 ((e_X12_goesOn 53 (if 0 < ((((e_X12_stepsOff 53 x3 ((e_X12_copies  μ)))).1 53 (Int32.toNatClampNeg 23)) - (((e_X12_stepsOff 53 x3 ((e_X12_copies  μ)))).1 53 (Int32.toNatClampNeg 22))) then ((((e_X12_stepsOff 53 x3 ((e_X12_copies  μ)))).1 53 (Int32.toNatClampNeg 23)) - (((e_X12_stepsOff 53 x3 ((e_X12_copies  μ)))).1 53 (Int32.toNatClampNeg 22))) else 0) ((e_X12_stepsOff 53 x3 ((e_X12_copies  μ))))))) ≤ x2 then x1 else x3 : Int32) : Int32), (if (v_X12_has (v_X12_here 52 μ) x3 μ) = 0 then x2 else (if x2 < (v_X12_moment 53 ((e_X12_moment 53 ((e_X12_goesOn 53 (if 0 < ((((e_X12_stepsOff 53 x3 ((e_X12_copies  μ)))).1 53 (Int32.toNatClampNeg 23)) - (((e_X12_stepsOff 53 x3 ((e_X12_copies  μ)))).1 53 (Int32.toNatClampNeg 22))) then ((((e_X12_stepsOff 53 x3 ((e_X12_copies  μ)))).1 53 (Int32.toNatClampNeg 23)) - (((e_X12_stepsOff 53 x3 ((e_X12_copies  μ)))).1 53 (Int32.toNatClampNeg 22))) else 0) ((e_X12_stepsOff 53 x3 ((e_X12_copies  μ))))))))) then (v_X12_moment 53 ((e_X12_moment 53 ((e_X12_goesOn 53 (if 0 < ((((e_X12_stepsOff 53 x3 ((e_X12_copies  μ)))).1 53 (Int32.toNatClampNeg 23)) - (((e_X12_stepsOff 53 x3 ((e_X12_copies  μ)))).1 53 (Int32.toNatClampNeg 22))) then ((((e_X12_stepsOff 53 x3 ((e_X12_copies  μ)))).1 53 (Int32.toNatClampNeg 23)) - (((e_X12_stepsOff 53 x3 ((e_X12_copies  μ)))).1 53 (Int32.toNatClampNeg 22))) else 0) ((e_X12_stepsOff 53 x3 ((e_X12_copies  μ))))))))) else x2) : Int32), (x3 + 1), μ14)))
def sd_X12_spares_14   (x1 : Int32) (x2 : Int32) (x3 : Int32) (μ : Mm) : Prop := (¬ ((μ.1 49 3) ≤ x3) → (¬ ((v_X12_has (v_X12_here 52 μ) x3 μ) = 0) → (p_X12_copies μ) ∧ (∀ μ4 : Mm, μ4 = (e_X12_copies  μ) → (∀ μ5 : Mm, μ5 = (e_X12_stepsOff 53 x3 μ4) → (p_X12_goesOn 53 (if 0 < ((μ5.1 53 (Int32.toNatClampNeg 23)) - (μ5.1 53 (Int32.toNatClampNeg 22))) then ((μ5.1 53 (Int32.toNatClampNeg 23)) - (μ5.1 53 (Int32.toNatClampNeg 22))) else 0) μ5) ∧ (∀ μ7 : Mm, μ7 = (e_X12_goesOn 53 (if 0 < ((μ5.1 53 (Int32.toNatClampNeg 23)) - (μ5.1 53 (Int32.toNatClampNeg 22))) then ((μ5.1 53 (Int32.toNatClampNeg 23)) - (μ5.1 53 (Int32.toNatClampNeg 22))) else 0) μ5) → (p_X12_moment 53 μ7) ∧ (∀ μ9 : Mm, μ9 = (e_X12_moment 53 μ7) → p_X12_moment 53 μ9))))))
set_option maxRecDepth 20000 in
set_option maxHeartbeats 4000000 in
theorem lw_X12_spares_14 {E : Ex} {G : Gx} {Q : Option Value → Mm → Prop} {x1 : Int32} {x2 : Int32} {x3 : Int32} {μ : Mm}  (p : whP (fun s : Int32 × Int32 × Int32 × Mm => bd_X12_spares_14  s.1 s.2.1 s.2.2.1 s.2.2.2) (fun s : Int32 × Int32 × Int32 × Mm => sd_X12_spares_14   s.1 s.2.1 s.2.2.1 s.2.2.2) FU (x1, x2, x3, μ)) (k : ∀ r : Int32 × Int32 × Mm, r = whl (fun s : Int32 × Int32 × Int32 × Mm => bd_X12_spares_14  s.1 s.2.1 s.2.2.1 s.2.2.2) (0, 0, m00) FU (x1, x2, x3, μ) → J E G 8 mX12_spares Q 116 [(0, rf E 49), (1, .int (r.1)), (2, .int (r.2.1))] [] (r.2.2)) : J E G 8 mX12_spares Q 14 [(0, rf E 49), (1, .int x1), (2, .int x2), (3, .int x3)] [] μ := by
  refine J_whl (f := (fun s : Int32 × Int32 × Int32 × Mm => bd_X12_spares_14  s.1 s.2.1 s.2.2.1 s.2.2.2)) (dd := (0, 0, m00)) (sd := (fun s : Int32 × Int32 × Int32 × Mm => sd_X12_spares_14   s.1 s.2.1 s.2.2.1 s.2.2.2)) (P := fun s : Int32 × Int32 × Int32 × Mm => J E G 8 mX12_spares Q 14 [(0, rf E 49), (1, .int (s.1)), (2, .int (s.2.1)), (3, .int (s.2.2.1))] [] (s.2.2.2)) (R := fun r : Int32 × Int32 × Mm => J E G 8 mX12_spares Q 116 [(0, rf E 49), (1, .int (r.1)), (2, .int (r.2.1))] [] (r.2.2)) ?_ FU (x1, x2, x3, μ) p (k _ rfl)
  clear p k
  rintro ⟨x1, x2, x3, μ⟩ t k1 k2
  dsimp only [sd_X12_spares_14] at t
  have kb : ∀ (y1 : Int32) (y2 : Int32) (y3 : Int32) (μ9 : Mm), bd_X12_spares_14  x1 x2 x3 μ = .inl (y1, y2, y3, μ9) → J E G 8 mX12_spares Q 14 [(0, rf E 49), (1, .int y1), (2, .int y2), (3, .int y3)] [] μ9 := fun y1 y2 y3 μ9 h => k1 (y1, y2, y3, μ9) h
  have kx : ∀ (y1 : Int32) (y2 : Int32) (μ9 : Mm), bd_X12_spares_14  x1 x2 x3 μ = .inr (y1, y2, μ9) → J E G 8 mX12_spares Q 116 [(0, rf E 49), (1, .int y1), (2, .int y2)] [] μ9 := fun y1 y2 μ9 h => k2 (y1, y2, μ9) h
  clear k1 k2
  refine J_iload_n (dk okX12_spares 9 rfl) 3 rfl rfl ?_
  refine J_aload_n (dk okX12_spares 10 rfl) 0 rfl rfl ?_
  refine J_getI (dk okX12_spares 11 rfl) kfX12_111 ds_49 rfl ?_
  refine J_icmp_ge (tgt := 116) (dk okX12_spares 12 rfl) (by decide) (fun h1 => ?_) (fun h1 => ?_)
  · exact J_sub [0, 1, 2] rfl (kx x1 x2 μ (by unfold bd_X12_spares_14; first | (simp only [if_pos h1]; done) | (simp only [if_pos h1]; rfl) | rfl))
  · have t := t h1
    refine J_aload_n (dk okX12_spares 13 rfl) 0 rfl rfl ?_
    refine J_aload_n (dk okX12_spares 14 rfl) 0 rfl rfl ?_
    refine J_getR (dk okX12_spares 15 rfl) kfX12_32 ds_49 rfl ?_
    refine J_callVi (As := [rf E 52]) (dk okX12_spares 16 rfl) ds_49 rfl vkX12_here lkX12_122 rfl rfl (Nat.le_of_ble_eq_true rfl) (by decide) (con_X12_here ds_52 ⟨_, rfl, ?_⟩)
    refine J_iload_n (dk okX12_spares 17 rfl) 3 rfl rfl ?_
    refine J_callSi (As := [.int (v_X12_here 52 μ), .int x3]) (dk okX12_spares 18 rfl) skX12_has lkX12_126 rfl rfl (Nat.le_of_ble_eq_true rfl) (by decide) (con_X12_has  ⟨_, rfl, ?_⟩)
    have K15 : J E G 8 mX12_spares Q 110 [(0, rf E 49), (1, .int (if (v_X12_has (v_X12_here 52 μ) x3 μ) = 0 then x1 else (if (v_X12_moment 53 ((e_X12_goesOn 53 (if 0 < ((((e_X12_stepsOff 53 x3 ((e_X12_copies  μ)))).1 53 (Int32.toNatClampNeg 23)) - (((e_X12_stepsOff 53 x3 ((e_X12_copies  μ)))).1 53 (Int32.toNatClampNeg 22))) then ((((e_X12_stepsOff 53 x3 ((e_X12_copies  μ)))).1 53 (Int32.toNatClampNeg 23)) - (((e_X12_stepsOff 53 x3 ((e_X12_copies  μ)))).1 53 (Int32.toNatClampNeg 22))) else 0) ((e_X12_stepsOff 53 x3 ((e_X12_copies  μ))))))) ≤ x2 then x1 else x3 : Int32) : Int32)), (2, .int (if (v_X12_has (v_X12_here 52 μ) x3 μ) = 0 then x2 else (if x2 < (v_X12_moment 53 ((e_X12_moment 53 ((e_X12_goesOn 53 (if 0 < ((((e_X12_stepsOff 53 x3 ((e_X12_copies  μ)))).1 53 (Int32.toNatClampNeg 23)) - (((e_X12_stepsOff 53 x3 ((e_X12_copies  μ)))).1 53 (Int32.toNatClampNeg 22))) then ((((e_X12_stepsOff 53 x3 ((e_X12_copies  μ)))).1 53 (Int32.toNatClampNeg 23)) - (((e_X12_stepsOff 53 x3 ((e_X12_copies  μ)))).1 53 (Int32.toNatClampNeg 22))) else 0) ((e_X12_stepsOff 53 x3 ((e_X12_copies  μ))))))))) then (v_X12_moment 53 ((e_X12_moment 53 ((e_X12_goesOn 53 (if 0 < ((((e_X12_stepsOff 53 x3 ((e_X12_copies  μ)))).1 53 (Int32.toNatClampNeg 23)) - (((e_X12_stepsOff 53 x3 ((e_X12_copies  μ)))).1 53 (Int32.toNatClampNeg 22))) then ((((e_X12_stepsOff 53 x3 ((e_X12_copies  μ)))).1 53 (Int32.toNatClampNeg 23)) - (((e_X12_stepsOff 53 x3 ((e_X12_copies  μ)))).1 53 (Int32.toNatClampNeg 22))) else 0) ((e_X12_stepsOff 53 x3 ((e_X12_copies  μ))))))))) else x2) : Int32)), (3, .int x3)] [] (if (v_X12_has (v_X12_here 52 μ) x3 μ) = 0 then μ else ((e_X12_moment 53 ((e_X12_moment 53 ((e_X12_goesOn 53 (if 0 < ((((e_X12_stepsOff 53 x3 ((e_X12_copies  μ)))).1 53 (Int32.toNatClampNeg 23)) - (((e_X12_stepsOff 53 x3 ((e_X12_copies  μ)))).1 53 (Int32.toNatClampNeg 22))) then ((((e_X12_stepsOff 53 x3 ((e_X12_copies  μ)))).1 53 (Int32.toNatClampNeg 23)) - (((e_X12_stepsOff 53 x3 ((e_X12_copies  μ)))).1 53 (Int32.toNatClampNeg 22))) else 0) ((e_X12_stepsOff 53 x3 ((e_X12_copies  μ)))))))))) : Mm) := by
      refine J_nm (fun μ14 eμ14 => ?_)
      refine J_iinc (v := (x3 + 1)) (ls' := [(3, _), (0, _), (1, _), (2, _)]) (dk okX12_spares 61 rfl) 3 rfl rfl (by decide) rfl ?_
      refine J_goto (tgt := 14) (dk okX12_spares 62 rfl) (by decide) ?_
      exact J_sub [1, 2, 3, 0] rfl (kb (if (v_X12_has (v_X12_here 52 μ) x3 μ) = 0 then x1 else (if (v_X12_moment 53 ((e_X12_goesOn 53 (if 0 < ((((e_X12_stepsOff 53 x3 ((e_X12_copies  μ)))).1 53 (Int32.toNatClampNeg 23)) - (((e_X12_stepsOff 53 x3 ((e_X12_copies  μ)))).1 53 (Int32.toNatClampNeg 22))) then ((((e_X12_stepsOff 53 x3 ((e_X12_copies  μ)))).1 53 (Int32.toNatClampNeg 23)) - (((e_X12_stepsOff 53 x3 ((e_X12_copies  μ)))).1 53 (Int32.toNatClampNeg 22))) else 0) ((e_X12_stepsOff 53 x3 ((e_X12_copies  μ))))))) ≤ x2 then x1 else x3 : Int32) : Int32) (if (v_X12_has (v_X12_here 52 μ) x3 μ) = 0 then x2 else (if x2 < (v_X12_moment 53 ((e_X12_moment 53 ((e_X12_goesOn 53 (if 0 < ((((e_X12_stepsOff 53 x3 ((e_X12_copies  μ)))).1 53 (Int32.toNatClampNeg 23)) - (((e_X12_stepsOff 53 x3 ((e_X12_copies  μ)))).1 53 (Int32.toNatClampNeg 22))) then ((((e_X12_stepsOff 53 x3 ((e_X12_copies  μ)))).1 53 (Int32.toNatClampNeg 23)) - (((e_X12_stepsOff 53 x3 ((e_X12_copies  μ)))).1 53 (Int32.toNatClampNeg 22))) else 0) ((e_X12_stepsOff 53 x3 ((e_X12_copies  μ))))))))) then (v_X12_moment 53 ((e_X12_moment 53 ((e_X12_goesOn 53 (if 0 < ((((e_X12_stepsOff 53 x3 ((e_X12_copies  μ)))).1 53 (Int32.toNatClampNeg 23)) - (((e_X12_stepsOff 53 x3 ((e_X12_copies  μ)))).1 53 (Int32.toNatClampNeg 22))) then ((((e_X12_stepsOff 53 x3 ((e_X12_copies  μ)))).1 53 (Int32.toNatClampNeg 23)) - (((e_X12_stepsOff 53 x3 ((e_X12_copies  μ)))).1 53 (Int32.toNatClampNeg 22))) else 0) ((e_X12_stepsOff 53 x3 ((e_X12_copies  μ))))))))) else x2) : Int32) (x3 + 1) μ14 (by subst eμ14; unfold bd_X12_spares_14; first | (simp only [if_neg h1]; done) | (simp only [if_neg h1]; rfl) | rfl))
    refine J_if_eq (tgt := 110) (dk okX12_spares 19 rfl) (by decide) (fun h2 => ?_) (fun h2 => ?_)
    · refine J_sub (ls' := [(0, _), (1, _), (2, _), (3, _)]) [0, 1, 2, 3] rfl ?_
      (try simp only [if_pos h2] at K15 ⊢); exact K15
    · have t := t h2
      refine J_aload_n (dk okX12_spares 20 rfl) 0 rfl rfl ?_
      obtain ⟨s3, t⟩ := t
      refine J_callVv (As := []) (dk okX12_spares 21 rfl) ds_49 rfl vkX12_copies lkX12_346 rfl rfl (Nat.le_of_ble_eq_true rfl) (by decide) (con_X12_copies s3 ⟨rfl, ?_⟩)
      refine J_nm (fun μ4 eμ4 => ?_)
      have t := t μ4 eμ4
      refine J_aload_n (dk okX12_spares 22 rfl) 0 rfl rfl ?_
      refine J_aload_n (dk okX12_spares 23 rfl) 0 rfl rfl ?_
      refine J_getR (dk okX12_spares 24 rfl) kfX12_35 ds_49 rfl ?_
      refine J_iload_n (dk okX12_spares 25 rfl) 3 rfl rfl ?_
      refine J_callVi (As := [rf E 53, .int x3]) (dk okX12_spares 26 rfl) ds_49 rfl vkX12_stepsOff lkX12_324 rfl rfl (Nat.le_of_ble_eq_true rfl) (by decide) (con_X12_stepsOff ds_53 ⟨_, rfl, ?_⟩)
      refine J_nm (fun μ5 eμ5 => ?_)
      have t := t μ5 eμ5
      refine J_pop (dk okX12_spares 27 rfl) rfl ?_
      refine J_aload_n (dk okX12_spares 28 rfl) 0 rfl rfl ?_
      refine J_aload_n (dk okX12_spares 29 rfl) 0 rfl rfl ?_
      refine J_getR (dk okX12_spares 30 rfl) kfX12_35 ds_49 rfl ?_
      refine J_iconst (v := 0) (dk okX12_spares 31 rfl) (by decide) ?_
      refine J_aload_n (dk okX12_spares 32 rfl) 0 rfl rfl ?_
      refine J_getR (dk okX12_spares 33 rfl) kfX12_35 ds_49 rfl ?_
      refine J_bipush (v := 23) (dk okX12_spares 34 rfl) (by decide) ?_
      refine J_iald (dk okX12_spares 35 rfl) ds_53 (by unfold vp_in; decide) ?_
      refine J_aload_n (dk okX12_spares 36 rfl) 0 rfl rfl ?_
      refine J_getR (dk okX12_spares 37 rfl) kfX12_35 ds_49 rfl ?_
      refine J_bipush (v := 22) (dk okX12_spares 38 rfl) (by decide) ?_
      refine J_iald (dk okX12_spares 39 rfl) ds_53 (by unfold vp_in; decide) ?_
      refine J_isub (dk okX12_spares 40 rfl) ?_
      refine J_mmax (dk okX12_spares 41 rfl) lkX12_284 mk_max_s mk_Math mk_max_c (by decide) (Nat.le_of_ble_eq_true rfl) ?_
      obtain ⟨s6, t⟩ := t
      refine J_callVi (As := [rf E 53, .int (if 0 < ((μ5.1 53 (Int32.toNatClampNeg 23)) - (μ5.1 53 (Int32.toNatClampNeg 22))) then ((μ5.1 53 (Int32.toNatClampNeg 23)) - (μ5.1 53 (Int32.toNatClampNeg 22))) else 0)]) (dk okX12_spares 42 rfl) ds_49 rfl vkX12_goesOn lkX12_309 rfl rfl (Nat.le_of_ble_eq_true rfl) (by decide) (con_X12_goesOn ds_53 s6 ⟨_, rfl, ?_⟩)
      refine J_nm (fun μ7 eμ7 => ?_)
      have t := t μ7 eμ7
      refine J_pop (dk okX12_spares 43 rfl) rfl ?_
      refine J_aload_n (dk okX12_spares 44 rfl) 0 rfl rfl ?_
      refine J_aload_n (dk okX12_spares 45 rfl) 0 rfl rfl ?_
      refine J_getR (dk okX12_spares 46 rfl) kfX12_35 ds_49 rfl ?_
      obtain ⟨s8, t⟩ := t
      refine J_callVi (As := [rf E 53]) (dk okX12_spares 47 rfl) ds_49 rfl vkX12_moment lkX12_275 rfl rfl (Nat.le_of_ble_eq_true rfl) (by decide) (con_X12_moment ds_53 s8 ⟨_, rfl, ?_⟩)
      refine J_nm (fun μ9 eμ9 => ?_)
      have t := t μ9 eμ9
      refine J_iload_n (dk okX12_spares 48 rfl) 2 rfl rfl ?_
      have K11 : J E G 8 mX12_spares Q 96 [(0, rf E 49), (2, .int x2), (3, .int x3)] [.int (if (v_X12_moment 53 μ7) ≤ x2 then x1 else x3 : Int32)] μ9 := by
        refine J_istore_n (ls' := [(1, _), (0, _), (2, _), (3, _)]) (dk okX12_spares 53 rfl) rfl (by decide) rfl ?_
        refine J_iload_n (dk okX12_spares 54 rfl) 2 rfl rfl ?_
        refine J_aload_n (dk okX12_spares 55 rfl) 1 rfl rfl ?_
        refine J_aload_n (dk okX12_spares 56 rfl) 1 rfl rfl ?_
        refine J_getR (dk okX12_spares 57 rfl) kfX12_35 ds_49 rfl ?_
        have s12 := t
        refine J_callVi (As := [rf E 53]) (dk okX12_spares 58 rfl) ds_49 rfl vkX12_moment lkX12_275 rfl rfl (Nat.le_of_ble_eq_true rfl) (by decide) (con_X12_moment ds_53 s12 ⟨_, rfl, ?_⟩)
        refine J_nm (fun μ13 eμ13 => ?_)
        refine J_mmax (dk okX12_spares 59 rfl) lkX12_284 mk_max_s mk_Math mk_max_c (by decide) (Nat.le_of_ble_eq_true rfl) ?_
        refine J_istore_n (ls' := [(2, _), (1, _), (0, _), (3, _)]) (dk okX12_spares 60 rfl) rfl (by decide) rfl ?_
        subst eμ13 eμ9 eμ7 eμ5 eμ4
        refine J_sub (ls' := [(0, _), (1, _), (2, _), (3, _)]) [2, 1, 0, 3] rfl ?_
        (try simp only [if_neg h2] at K15 ⊢); exact K15
      refine J_icmp_le (tgt := 95) (dk okX12_spares 49 rfl) (by decide) (fun h10 => ?_) (fun h10 => ?_)
      · refine J_iload_n (dk okX12_spares 52 rfl) 1 rfl rfl ?_
        refine J_sub (ls' := [(0, _), (2, _), (3, _)]) [0, 2, 3] rfl ?_
        (try simp only [if_pos h10] at K11 ⊢); exact K11
      · refine J_iload_n (dk okX12_spares 50 rfl) 3 rfl rfl ?_
        refine J_goto (tgt := 96) (dk okX12_spares 51 rfl) (by decide) ?_
        refine J_sub (ls' := [(0, _), (2, _), (3, _)]) [0, 2, 3] rfl ?_
        (try simp only [if_neg h10] at K11 ⊢); exact K11
/-- VotingFloorModel.spares()I -/
noncomputable def v_X12_spares  (μ : Mm) : Int32 := (let μ1 : Mm := (upI μ 49 0 0); (let r3 : Int32 × Int32 × Mm := whl (fun s : Int32 × Int32 × Int32 × Mm => bd_X12_spares_14  s.1 s.2.1 s.2.2.1 s.2.2.2) (0, 0, m00) FU ((-2), (-1000000), 0, μ1); (r3.1)))
noncomputable def e_X12_spares  (μ : Mm) : Mm := (let μ1 : Mm := (upI μ 49 0 0); (let r3 : Int32 × Int32 × Mm := whl (fun s : Int32 × Int32 × Int32 × Mm => bd_X12_spares_14  s.1 s.2.1 s.2.2.1 s.2.2.2) (0, 0, m00) FU ((-2), (-1000000), 0, μ1); (let μ14 : Mm := (if (r3.1) < 0 then (r3.2.2) else ((e_X12_enters (Int32.toInt64 (2000 + (v_X12_moment 53 ((e_X12_enters (Int32.toInt64 (2000 + (r3.2.1))) ((upI ((e_X12_goesToNoon  (r3.2.2))) 49 1 0))))))) ((e_X12_moment 53 ((e_X12_enters (Int32.toInt64 (2000 + (r3.2.1))) ((upI ((e_X12_goesToNoon  (r3.2.2))) 49 1 0)))))))) : Mm); μ14)))
def p_X12_spares   (μ : Mm) : Prop := (∀ μ1 : Mm, μ1 = (upI μ 49 0 0) → (whP (fun s : Int32 × Int32 × Int32 × Mm => bd_X12_spares_14  s.1 s.2.1 s.2.2.1 s.2.2.2) (fun s : Int32 × Int32 × Int32 × Mm => sd_X12_spares_14   s.1 s.2.1 s.2.2.1 s.2.2.2) FU ((-2), (-1000000), 0, μ1)) ∧ (∀ r3 : Int32 × Int32 × Mm, r3 = whl (fun s : Int32 × Int32 × Int32 × Mm => bd_X12_spares_14  s.1 s.2.1 s.2.2.1 s.2.2.2) (0, 0, m00) FU ((-2), (-1000000), 0, μ1) → (¬ ((r3.1) < 0) → (p_X12_goesToNoon (r3.2.2)) ∧ (∀ μ6 : Mm, μ6 = (e_X12_goesToNoon  (r3.2.2)) → (∀ μ7 : Mm, μ7 = (upI μ6 49 1 0) → (p_X12_enters (Int32.toInt64 (2000 + (r3.2.1))) μ7) ∧ (∀ μ9 : Mm, μ9 = (e_X12_enters (Int32.toInt64 (2000 + (r3.2.1))) μ7) → (p_X12_moment 53 μ9) ∧ (∀ μ11 : Mm, μ11 = (e_X12_moment 53 μ9) → p_X12_enters (Int32.toInt64 (2000 + (v_X12_moment 53 μ9))) μ11)))))))
set_option maxRecDepth 20000 in
set_option maxHeartbeats 4000000 in
theorem con_X12_spares {E : Ex} {Q : Option Value → Mm → Prop} {μ : Mm} (t : p_X12_spares   μ) (k : Q (some (.int (v_X12_spares  μ))) (e_X12_spares  μ)) : Con E 8 mX12_spares [rf E 49] μ Q := by
  refine Con_J (by decide +kernel) (Nat.le_of_ble_eq_true rfl) (fun G => ?_)
  unfold v_X12_spares e_X12_spares at k
  unfold p_X12_spares at t
  refine J_sub (ls' := [(0, rf E 49)]) [0] rfl ?_
  refine J_aload_n (dk okX12_spares 0 rfl) 0 rfl rfl ?_
  refine J_iconst (v := 0) (dk okX12_spares 1 rfl) (by decide) ?_
  refine J_put (dk okX12_spares 2 rfl) kpX12_3 ds_49 rfl rfl rfl ?_
  refine J_nm (fun μ1 eμ1 => ?_)
  have t := t μ1 eμ1
  refine J_bipush (v := (-2)) (dk okX12_spares 3 rfl) (by decide) ?_
  refine J_istore_n (ls' := [(1, _), (0, _)]) (dk okX12_spares 4 rfl) rfl (by decide) rfl ?_
  refine J_ldc_w (v := (-1000000)) (dk okX12_spares 5 rfl) kcX12_355 ?_
  refine J_istore_n (ls' := [(2, _), (1, _), (0, _)]) (dk okX12_spares 6 rfl) rfl (by decide) rfl ?_
  refine J_iconst (v := 0) (dk okX12_spares 7 rfl) (by decide) ?_
  refine J_istore_n (ls' := [(3, _), (2, _), (1, _), (0, _)]) (dk okX12_spares 8 rfl) rfl (by decide) rfl ?_
  obtain ⟨s2, t⟩ := t
  refine J_sub (ls' := [(0, _), (1, _), (2, _), (3, _)]) [3, 2, 1, 0] rfl ?_
  refine lw_X12_spares_14  s2 (fun r3 er3 => ?_)
  have t := t r3 er3
  refine J_iload_n (dk okX12_spares 63 rfl) 1 rfl rfl ?_
  have K15 : J E G 8 mX12_spares Q 156 [(1, .int (r3.1))] [] (if (r3.1) < 0 then (r3.2.2) else ((e_X12_enters (Int32.toInt64 (2000 + (v_X12_moment 53 ((e_X12_enters (Int32.toInt64 (2000 + (r3.2.1))) ((upI ((e_X12_goesToNoon  (r3.2.2))) 49 1 0))))))) ((e_X12_moment 53 ((e_X12_enters (Int32.toInt64 (2000 + (r3.2.1))) ((upI ((e_X12_goesToNoon  (r3.2.2))) 49 1 0)))))))) : Mm) := by
    refine J_nm (fun μ14 eμ14 => ?_)
    refine J_iload_n (dk okX12_spares 85 rfl) 0 rfl rfl ?_
    subst eμ14 er3 eμ1
    exact J_iret (dk okX12_spares 86 rfl) rfl k
  refine J_if_lt (tgt := 156) (dk okX12_spares 64 rfl) (by decide) (fun h4 => ?_) (fun h4 => ?_)
  · refine J_sub (ls' := [(1, _)]) [1] rfl ?_
    (try simp only [if_pos h4] at K15 ⊢); exact K15
  · have t := t h4
    refine J_aload_n (dk okX12_spares 65 rfl) 0 rfl rfl ?_
    obtain ⟨s5, t⟩ := t
    refine J_callVv (As := []) (dk okX12_spares 66 rfl) ds_49 rfl vkX12_goesToNoon lkX12_349 rfl rfl (Nat.le_of_ble_eq_true rfl) (by decide) (con_X12_goesToNoon s5 ⟨rfl, ?_⟩)
    refine J_nm (fun μ6 eμ6 => ?_)
    have t := t μ6 eμ6
    refine J_aload_n (dk okX12_spares 67 rfl) 0 rfl rfl ?_
    refine J_iconst (v := 0) (dk okX12_spares 68 rfl) (by decide) ?_
    refine J_put (dk okX12_spares 69 rfl) kpX12_15 ds_49 rfl rfl rfl ?_
    refine J_nm (fun μ7 eμ7 => ?_)
    have t := t μ7 eμ7
    refine J_aload_n (dk okX12_spares 70 rfl) 0 rfl rfl ?_
    refine J_sipush (v := 2000) (dk okX12_spares 71 rfl) (by decide) ?_
    refine J_iload_n (dk okX12_spares 72 rfl) 2 rfl rfl ?_
    refine J_iadd (dk okX12_spares 73 rfl) ?_
    refine J_i2l (dk okX12_spares 74 rfl) ?_
    obtain ⟨s8, t⟩ := t
    refine J_callVv (As := [.long (Int32.toInt64 (2000 + (r3.2.1)))]) (dk okX12_spares 75 rfl) ds_49 rfl vkX12_enters lkX12_18 rfl rfl (Nat.le_of_ble_eq_true rfl) (by decide) (con_X12_enters s8 ⟨rfl, ?_⟩)
    refine J_nm (fun μ9 eμ9 => ?_)
    have t := t μ9 eμ9
    refine J_aload_n (dk okX12_spares 76 rfl) 0 rfl rfl ?_
    refine J_sipush (v := 2000) (dk okX12_spares 77 rfl) (by decide) ?_
    refine J_aload_n (dk okX12_spares 78 rfl) 0 rfl rfl ?_
    refine J_aload_n (dk okX12_spares 79 rfl) 0 rfl rfl ?_
    refine J_getR (dk okX12_spares 80 rfl) kfX12_35 ds_49 rfl ?_
    obtain ⟨s10, t⟩ := t
    refine J_callVi (As := [rf E 53]) (dk okX12_spares 81 rfl) ds_49 rfl vkX12_moment lkX12_275 rfl rfl (Nat.le_of_ble_eq_true rfl) (by decide) (con_X12_moment ds_53 s10 ⟨_, rfl, ?_⟩)
    refine J_nm (fun μ11 eμ11 => ?_)
    have t := t μ11 eμ11
    refine J_iadd (dk okX12_spares 82 rfl) ?_
    refine J_i2l (dk okX12_spares 83 rfl) ?_
    have s12 := t
    refine J_callVv (As := [.long (Int32.toInt64 (2000 + (v_X12_moment 53 μ9)))]) (dk okX12_spares 84 rfl) ds_49 rfl vkX12_enters lkX12_18 rfl rfl (Nat.le_of_ble_eq_true rfl) (by decide) (con_X12_enters s12 ⟨rfl, ?_⟩)
    refine J_nm (fun μ13 eμ13 => ?_)
    subst eμ13 eμ11 eμ9 eμ7 eμ6
    refine J_sub (ls' := [(1, _)]) [1] rfl ?_
    (try simp only [if_neg h4] at K15 ⊢); exact K15
